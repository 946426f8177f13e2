section
-- ===== PART A: goes FIRST, ahead of the names: the tables' words, and 'selects' of the private methods out of them =====
/-- a private method of a class that the tables say can be made, by its rows of tables_1 -/
def lw_okq (q : MethodName × Nat) : Prop := (q.1.cls ≠ "java/lang/invoke/MethodHandle" ∧ q.1.cls ≠ "java/lang/invoke/VarHandle") ∧ Cond.instantiable q.1.cls q.2 ∈ tables_1 ∧ Cond.privateMethod q.1 ∈ tables_1 ∧ Cond.instanceMethod q.1 ∈ tables_1
theorem lw_p0 : lw_okq (⟨"IronCall", "finding", "(I)I"⟩, 9) := ⟨⟨by decide +kernel, by decide +kernel⟩, List.mem_of_getElem? (i := 17) (by decide +kernel), List.mem_of_getElem? (i := 213) (by decide +kernel), List.mem_of_getElem? (i := 214) (by decide +kernel)⟩
theorem lw_p1 : lw_okq (⟨"IronCall", "startTrial", "()V"⟩, 9) := ⟨⟨by decide +kernel, by decide +kernel⟩, List.mem_of_getElem? (i := 17) (by decide +kernel), List.mem_of_getElem? (i := 399) (by decide +kernel), List.mem_of_getElem? (i := 400) (by decide +kernel)⟩
theorem lw_p2 : lw_okq (⟨"IronCall", "fewestCalls", "(IIII)I"⟩, 9) := ⟨⟨by decide +kernel, by decide +kernel⟩, List.mem_of_getElem? (i := 17) (by decide +kernel), List.mem_of_getElem? (i := 427) (by decide +kernel), List.mem_of_getElem? (i := 428) (by decide +kernel)⟩
theorem lw_p3 : lw_okq (⟨"IronCall", "furthestBy", "(III)I"⟩, 9) := ⟨⟨by decide +kernel, by decide +kernel⟩, List.mem_of_getElem? (i := 17) (by decide +kernel), List.mem_of_getElem? (i := 458) (by decide +kernel), List.mem_of_getElem? (i := 459) (by decide +kernel)⟩
theorem lw_p4 : lw_okq (⟨"IronCall", "savesAll", "(II)Z"⟩, 9) := ⟨⟨by decide +kernel, by decide +kernel⟩, List.mem_of_getElem? (i := 17) (by decide +kernel), List.mem_of_getElem? (i := 475) (by decide +kernel), List.mem_of_getElem? (i := 476) (by decide +kernel)⟩
theorem lw_p5 : lw_okq (⟨"IronCall", "choicesAsTold", "(IIII)I"⟩, 9) := ⟨⟨by decide +kernel, by decide +kernel⟩, List.mem_of_getElem? (i := 17) (by decide +kernel), List.mem_of_getElem? (i := 488) (by decide +kernel), List.mem_of_getElem? (i := 489) (by decide +kernel)⟩
theorem lw_p6 : lw_okq (⟨"IronCall", "sheetAt", "(I)LIronCall$Sheet;"⟩, 9) := ⟨⟨by decide +kernel, by decide +kernel⟩, List.mem_of_getElem? (i := 17) (by decide +kernel), List.mem_of_getElem? (i := 492) (by decide +kernel), List.mem_of_getElem? (i := 493) (by decide +kernel)⟩
theorem lw_p7 : lw_okq (⟨"IronCall", "trialGoesAs", "(LIronCall$Sheet;II)Z"⟩, 9) := ⟨⟨by decide +kernel, by decide +kernel⟩, List.mem_of_getElem? (i := 17) (by decide +kernel), List.mem_of_getElem? (i := 500) (by decide +kernel), List.mem_of_getElem? (i := 501) (by decide +kernel)⟩
theorem lw_p8 : lw_okq (⟨"IronCallModel", "becomes", "(II)I"⟩, 17) := ⟨⟨by decide +kernel, by decide +kernel⟩, List.mem_of_getElem? (i := 792) (by decide +kernel), List.mem_of_getElem? (i := 866) (by decide +kernel), List.mem_of_getElem? (i := 867) (by decide +kernel)⟩
theorem lw_p9 : lw_okq (⟨"IronCallModel", "finds", "(I)I"⟩, 17) := ⟨⟨by decide +kernel, by decide +kernel⟩, List.mem_of_getElem? (i := 792) (by decide +kernel), List.mem_of_getElem? (i := 870) (by decide +kernel), List.mem_of_getElem? (i := 871) (by decide +kernel)⟩
theorem lw_p10 : lw_okq (⟨"IronCallModel", "comes", "(II)I"⟩, 17) := ⟨⟨by decide +kernel, by decide +kernel⟩, List.mem_of_getElem? (i := 792) (by decide +kernel), List.mem_of_getElem? (i := 884) (by decide +kernel), List.mem_of_getElem? (i := 885) (by decide +kernel)⟩
theorem lw_p11 : lw_okq (⟨"IronCallModel", "sets", "(III)V"⟩, 17) := ⟨⟨by decide +kernel, by decide +kernel⟩, List.mem_of_getElem? (i := 792) (by decide +kernel), List.mem_of_getElem? (i := 888) (by decide +kernel), List.mem_of_getElem? (i := 889) (by decide +kernel)⟩
theorem lw_p12 : lw_okq (⟨"IronCallModel", "isThing", "(I)Z"⟩, 17) := ⟨⟨by decide +kernel, by decide +kernel⟩, List.mem_of_getElem? (i := 792) (by decide +kernel), List.mem_of_getElem? (i := 896) (by decide +kernel), List.mem_of_getElem? (i := 897) (by decide +kernel)⟩
theorem lw_p13 : lw_okq (⟨"IronCallModel", "feels", "(I)I"⟩, 17) := ⟨⟨by decide +kernel, by decide +kernel⟩, List.mem_of_getElem? (i := 792) (by decide +kernel), List.mem_of_getElem? (i := 901) (by decide +kernel), List.mem_of_getElem? (i := 902) (by decide +kernel)⟩
theorem lw_p14 : lw_okq (⟨"IronCallModel", "far", "(I)I"⟩, 17) := ⟨⟨by decide +kernel, by decide +kernel⟩, List.mem_of_getElem? (i := 792) (by decide +kernel), List.mem_of_getElem? (i := 905) (by decide +kernel), List.mem_of_getElem? (i := 906) (by decide +kernel)⟩
theorem lw_p15 : lw_okq (⟨"IronCallModel", "its", "(II)I"⟩, 17) := ⟨⟨by decide +kernel, by decide +kernel⟩, List.mem_of_getElem? (i := 792) (by decide +kernel), List.mem_of_getElem? (i := 909) (by decide +kernel), List.mem_of_getElem? (i := 910) (by decide +kernel)⟩
def lw_privs_1 : List (MethodName × Nat) := [(⟨"IronCall", "finding", "(I)I"⟩, 9), (⟨"IronCall", "startTrial", "()V"⟩, 9), (⟨"IronCall", "fewestCalls", "(IIII)I"⟩, 9), (⟨"IronCall", "furthestBy", "(III)I"⟩, 9), (⟨"IronCall", "savesAll", "(II)Z"⟩, 9), (⟨"IronCall", "choicesAsTold", "(IIII)I"⟩, 9), (⟨"IronCall", "sheetAt", "(I)LIronCall$Sheet;"⟩, 9), (⟨"IronCall", "trialGoesAs", "(LIronCall$Sheet;II)Z"⟩, 9), (⟨"IronCallModel", "becomes", "(II)I"⟩, 17), (⟨"IronCallModel", "finds", "(I)I"⟩, 17), (⟨"IronCallModel", "comes", "(II)I"⟩, 17), (⟨"IronCallModel", "sets", "(III)V"⟩, 17), (⟨"IronCallModel", "isThing", "(I)Z"⟩, 17), (⟨"IronCallModel", "feels", "(I)I"⟩, 17), (⟨"IronCallModel", "far", "(I)I"⟩, 17), (⟨"IronCallModel", "its", "(II)I"⟩, 17)]
theorem lw_r1 : ∀ q ∈ lw_privs_1, lw_okq q := List.forall_mem_cons.mpr ⟨lw_p0, List.forall_mem_cons.mpr ⟨lw_p1, List.forall_mem_cons.mpr ⟨lw_p2, List.forall_mem_cons.mpr ⟨lw_p3, List.forall_mem_cons.mpr ⟨lw_p4, List.forall_mem_cons.mpr ⟨lw_p5, List.forall_mem_cons.mpr ⟨lw_p6, List.forall_mem_cons.mpr ⟨lw_p7, List.forall_mem_cons.mpr ⟨lw_p8, List.forall_mem_cons.mpr ⟨lw_p9, List.forall_mem_cons.mpr ⟨lw_p10, List.forall_mem_cons.mpr ⟨lw_p11, List.forall_mem_cons.mpr ⟨lw_p12, List.forall_mem_cons.mpr ⟨lw_p13, List.forall_mem_cons.mpr ⟨lw_p14, List.forall_mem_cons.mpr ⟨lw_p15, fun _ h => absurd h List.not_mem_nil⟩⟩⟩⟩⟩⟩⟩⟩⟩⟩⟩⟩⟩⟩⟩⟩
theorem lw_p16 : lw_okq (⟨"IronCallModel", "lying", "(I)I"⟩, 17) := ⟨⟨by decide +kernel, by decide +kernel⟩, List.mem_of_getElem? (i := 792) (by decide +kernel), List.mem_of_getElem? (i := 919) (by decide +kernel), List.mem_of_getElem? (i := 920) (by decide +kernel)⟩
theorem lw_p17 : lw_okq (⟨"IronCallModel", "isTaken", "(I)Z"⟩, 17) := ⟨⟨by decide +kernel, by decide +kernel⟩, List.mem_of_getElem? (i := 792) (by decide +kernel), List.mem_of_getElem? (i := 923) (by decide +kernel), List.mem_of_getElem? (i := 924) (by decide +kernel)⟩
theorem lw_p18 : lw_okq (⟨"IronCallModel", "steps", "(I)I"⟩, 17) := ⟨⟨by decide +kernel, by decide +kernel⟩, List.mem_of_getElem? (i := 792) (by decide +kernel), List.mem_of_getElem? (i := 930) (by decide +kernel), List.mem_of_getElem? (i := 931) (by decide +kernel)⟩
theorem lw_p19 : lw_okq (⟨"IronCallModel", "isLiked", "(I)Z"⟩, 17) := ⟨⟨by decide +kernel, by decide +kernel⟩, List.mem_of_getElem? (i := 792) (by decide +kernel), List.mem_of_getElem? (i := 934) (by decide +kernel), List.mem_of_getElem? (i := 935) (by decide +kernel)⟩
theorem lw_p20 : lw_okq (⟨"IronCallModel", "rests", "(I)I"⟩, 17) := ⟨⟨by decide +kernel, by decide +kernel⟩, List.mem_of_getElem? (i := 792) (by decide +kernel), List.mem_of_getElem? (i := 938) (by decide +kernel), List.mem_of_getElem? (i := 939) (by decide +kernel)⟩
theorem lw_p21 : lw_okq (⟨"IronCallModel", "callsGo", "(I)V"⟩, 17) := ⟨⟨by decide +kernel, by decide +kernel⟩, List.mem_of_getElem? (i := 792) (by decide +kernel), List.mem_of_getElem? (i := 962) (by decide +kernel), List.mem_of_getElem? (i := 963) (by decide +kernel)⟩
theorem lw_p22 : lw_okq (⟨"IronCallModel", "callGoes", "()V"⟩, 17) := ⟨⟨by decide +kernel, by decide +kernel⟩, List.mem_of_getElem? (i := 792) (by decide +kernel), List.mem_of_getElem? (i := 966) (by decide +kernel), List.mem_of_getElem? (i := 967) (by decide +kernel)⟩
theorem lw_p23 : lw_okq (⟨"IronCallModel", "cartGoes", "()V"⟩, 17) := ⟨⟨by decide +kernel, by decide +kernel⟩, List.mem_of_getElem? (i := 792) (by decide +kernel), List.mem_of_getElem? (i := 970) (by decide +kernel), List.mem_of_getElem? (i := 971) (by decide +kernel)⟩
theorem lw_p24 : lw_okq (⟨"IronCallModel", "turns", "()V"⟩, 17) := ⟨⟨by decide +kernel, by decide +kernel⟩, List.mem_of_getElem? (i := 792) (by decide +kernel), List.mem_of_getElem? (i := 974) (by decide +kernel), List.mem_of_getElem? (i := 975) (by decide +kernel)⟩
theorem lw_p25 : lw_okq (⟨"IronCallModel", "pulls", "(I)V"⟩, 17) := ⟨⟨by decide +kernel, by decide +kernel⟩, List.mem_of_getElem? (i := 792) (by decide +kernel), List.mem_of_getElem? (i := 978) (by decide +kernel), List.mem_of_getElem? (i := 979) (by decide +kernel)⟩
theorem lw_p26 : lw_okq (⟨"IronCallModel", "setOf", "(I)I"⟩, 17) := ⟨⟨by decide +kernel, by decide +kernel⟩, List.mem_of_getElem? (i := 792) (by decide +kernel), List.mem_of_getElem? (i := 982) (by decide +kernel), List.mem_of_getElem? (i := 983) (by decide +kernel)⟩
theorem lw_p27 : lw_okq (⟨"IronCallModel", "sumOf", "(I)I"⟩, 17) := ⟨⟨by decide +kernel, by decide +kernel⟩, List.mem_of_getElem? (i := 792) (by decide +kernel), List.mem_of_getElem? (i := 990) (by decide +kernel), List.mem_of_getElem? (i := 991) (by decide +kernel)⟩
theorem lw_p28 : lw_okq (⟨"IronCallModel", "heavyTaken", "()I"⟩, 17) := ⟨⟨by decide +kernel, by decide +kernel⟩, List.mem_of_getElem? (i := 792) (by decide +kernel), List.mem_of_getElem? (i := 994) (by decide +kernel), List.mem_of_getElem? (i := 995) (by decide +kernel)⟩
theorem lw_p29 : lw_okq (⟨"IronCallModel", "strongest", "()I"⟩, 17) := ⟨⟨by decide +kernel, by decide +kernel⟩, List.mem_of_getElem? (i := 792) (by decide +kernel), List.mem_of_getElem? (i := 998) (by decide +kernel), List.mem_of_getElem? (i := 999) (by decide +kernel)⟩
theorem lw_p30 : lw_okq (⟨"IronCallModel", "cells", "()I"⟩, 17) := ⟨⟨by decide +kernel, by decide +kernel⟩, List.mem_of_getElem? (i := 792) (by decide +kernel), List.mem_of_getElem? (i := 1002) (by decide +kernel), List.mem_of_getElem? (i := 1003) (by decide +kernel)⟩
theorem lw_p31 : lw_okq (⟨"IronCallModel", "behind", "(II)I"⟩, 17) := ⟨⟨by decide +kernel, by decide +kernel⟩, List.mem_of_getElem? (i := 792) (by decide +kernel), List.mem_of_getElem? (i := 1014) (by decide +kernel), List.mem_of_getElem? (i := 1015) (by decide +kernel)⟩
def lw_privs_2 : List (MethodName × Nat) := [(⟨"IronCallModel", "lying", "(I)I"⟩, 17), (⟨"IronCallModel", "isTaken", "(I)Z"⟩, 17), (⟨"IronCallModel", "steps", "(I)I"⟩, 17), (⟨"IronCallModel", "isLiked", "(I)Z"⟩, 17), (⟨"IronCallModel", "rests", "(I)I"⟩, 17), (⟨"IronCallModel", "callsGo", "(I)V"⟩, 17), (⟨"IronCallModel", "callGoes", "()V"⟩, 17), (⟨"IronCallModel", "cartGoes", "()V"⟩, 17), (⟨"IronCallModel", "turns", "()V"⟩, 17), (⟨"IronCallModel", "pulls", "(I)V"⟩, 17), (⟨"IronCallModel", "setOf", "(I)I"⟩, 17), (⟨"IronCallModel", "sumOf", "(I)I"⟩, 17), (⟨"IronCallModel", "heavyTaken", "()I"⟩, 17), (⟨"IronCallModel", "strongest", "()I"⟩, 17), (⟨"IronCallModel", "cells", "()I"⟩, 17), (⟨"IronCallModel", "behind", "(II)I"⟩, 17)]
theorem lw_r2 : ∀ q ∈ lw_privs_2, lw_okq q := List.forall_mem_cons.mpr ⟨lw_p16, List.forall_mem_cons.mpr ⟨lw_p17, List.forall_mem_cons.mpr ⟨lw_p18, List.forall_mem_cons.mpr ⟨lw_p19, List.forall_mem_cons.mpr ⟨lw_p20, List.forall_mem_cons.mpr ⟨lw_p21, List.forall_mem_cons.mpr ⟨lw_p22, List.forall_mem_cons.mpr ⟨lw_p23, List.forall_mem_cons.mpr ⟨lw_p24, List.forall_mem_cons.mpr ⟨lw_p25, List.forall_mem_cons.mpr ⟨lw_p26, List.forall_mem_cons.mpr ⟨lw_p27, List.forall_mem_cons.mpr ⟨lw_p28, List.forall_mem_cons.mpr ⟨lw_p29, List.forall_mem_cons.mpr ⟨lw_p30, List.forall_mem_cons.mpr ⟨lw_p31, fun _ h => absurd h List.not_mem_nil⟩⟩⟩⟩⟩⟩⟩⟩⟩⟩⟩⟩⟩⟩⟩⟩
theorem lw_p32 : lw_okq (⟨"IronCallModel", "firstOf", "(III)I"⟩, 17) := ⟨⟨by decide +kernel, by decide +kernel⟩, List.mem_of_getElem? (i := 792) (by decide +kernel), List.mem_of_getElem? (i := 1026) (by decide +kernel), List.mem_of_getElem? (i := 1027) (by decide +kernel)⟩
theorem lw_p33 : lw_okq (⟨"IronCallModel", "bestOf", "(IIII)I"⟩, 17) := ⟨⟨by decide +kernel, by decide +kernel⟩, List.mem_of_getElem? (i := 792) (by decide +kernel), List.mem_of_getElem? (i := 1057) (by decide +kernel), List.mem_of_getElem? (i := 1058) (by decide +kernel)⟩
theorem lw_p34 : lw_okq (⟨"IronCallModel", "whyNot", "(II)I"⟩, 17) := ⟨⟨by decide +kernel, by decide +kernel⟩, List.mem_of_getElem? (i := 792) (by decide +kernel), List.mem_of_getElem? (i := 1077) (by decide +kernel), List.mem_of_getElem? (i := 1078) (by decide +kernel)⟩
theorem lw_p35 : lw_okq (⟨"IronCallModel", "whyNone", "(I)I"⟩, 17) := ⟨⟨by decide +kernel, by decide +kernel⟩, List.mem_of_getElem? (i := 792) (by decide +kernel), List.mem_of_getElem? (i := 1081) (by decide +kernel), List.mem_of_getElem? (i := 1082) (by decide +kernel)⟩
theorem lw_p36 : lw_okq (⟨"IronCallModel", "fitting", "(IIIII)I"⟩, 17) := ⟨⟨by decide +kernel, by decide +kernel⟩, List.mem_of_getElem? (i := 792) (by decide +kernel), List.mem_of_getElem? (i := 1088) (by decide +kernel), List.mem_of_getElem? (i := 1089) (by decide +kernel)⟩
theorem lw_p37 : lw_okq (⟨"IronCallModel", "draw", "()I"⟩, 17) := ⟨⟨by decide +kernel, by decide +kernel⟩, List.mem_of_getElem? (i := 792) (by decide +kernel), List.mem_of_getElem? (i := 1100) (by decide +kernel), List.mem_of_getElem? (i := 1101) (by decide +kernel)⟩
theorem lw_p38 : lw_okq (⟨"IronCallModel", "items", "()I"⟩, 17) := ⟨⟨by decide +kernel, by decide +kernel⟩, List.mem_of_getElem? (i := 792) (by decide +kernel), List.mem_of_getElem? (i := 1126) (by decide +kernel), List.mem_of_getElem? (i := 1127) (by decide +kernel)⟩
theorem lw_p39 : lw_okq (⟨"IronCallModel", "next", "()V"⟩, 17) := ⟨⟨by decide +kernel, by decide +kernel⟩, List.mem_of_getElem? (i := 792) (by decide +kernel), List.mem_of_getElem? (i := 1130) (by decide +kernel), List.mem_of_getElem? (i := 1131) (by decide +kernel)⟩
theorem lw_p40 : lw_okq (⟨"IronCallModel", "byteAt", "(I)I"⟩, 17) := ⟨⟨by decide +kernel, by decide +kernel⟩, List.mem_of_getElem? (i := 792) (by decide +kernel), List.mem_of_getElem? (i := 1134) (by decide +kernel), List.mem_of_getElem? (i := 1135) (by decide +kernel)⟩
theorem lw_p41 : lw_okq (⟨"IronCallModel", "item", "()V"⟩, 17) := ⟨⟨by decide +kernel, by decide +kernel⟩, List.mem_of_getElem? (i := 792) (by decide +kernel), List.mem_of_getElem? (i := 1148) (by decide +kernel), List.mem_of_getElem? (i := 1149) (by decide +kernel)⟩
theorem lw_p42 : lw_okq (⟨"IronCallModel", "kindHere", "()I"⟩, 17) := ⟨⟨by decide +kernel, by decide +kernel⟩, List.mem_of_getElem? (i := 792) (by decide +kernel), List.mem_of_getElem? (i := 1152) (by decide +kernel), List.mem_of_getElem? (i := 1153) (by decide +kernel)⟩
theorem lw_p43 : lw_okq (⟨"IronCallModel", "isWord", "(J)Z"⟩, 17) := ⟨⟨by decide +kernel, by decide +kernel⟩, List.mem_of_getElem? (i := 792) (by decide +kernel), List.mem_of_getElem? (i := 1157) (by decide +kernel), List.mem_of_getElem? (i := 1158) (by decide +kernel)⟩
theorem lw_p44 : lw_okq (⟨"IronCallModel", "thingHere", "(I)V"⟩, 17) := ⟨⟨by decide +kernel, by decide +kernel⟩, List.mem_of_getElem? (i := 792) (by decide +kernel), List.mem_of_getElem? (i := 1167) (by decide +kernel), List.mem_of_getElem? (i := 1168) (by decide +kernel)⟩
theorem lw_p45 : lw_okq (⟨"IronCallModel", "wrongHere", "()V"⟩, 17) := ⟨⟨by decide +kernel, by decide +kernel⟩, List.mem_of_getElem? (i := 792) (by decide +kernel), List.mem_of_getElem? (i := 1171) (by decide +kernel), List.mem_of_getElem? (i := 1172) (by decide +kernel)⟩
theorem lw_p46 : lw_okq (⟨"IronCallModel", "perhaps", "(JIII)V"⟩, 17) := ⟨⟨by decide +kernel, by decide +kernel⟩, List.mem_of_getElem? (i := 792) (by decide +kernel), List.mem_of_getElem? (i := 1176) (by decide +kernel), List.mem_of_getElem? (i := 1177) (by decide +kernel)⟩
theorem lw_p47 : lw_okq (⟨"IronCallModel", "numberHere", "(II)I"⟩, 17) := ⟨⟨by decide +kernel, by decide +kernel⟩, List.mem_of_getElem? (i := 792) (by decide +kernel), List.mem_of_getElem? (i := 1180) (by decide +kernel), List.mem_of_getElem? (i := 1181) (by decide +kernel)⟩
def lw_privs_3 : List (MethodName × Nat) := [(⟨"IronCallModel", "firstOf", "(III)I"⟩, 17), (⟨"IronCallModel", "bestOf", "(IIII)I"⟩, 17), (⟨"IronCallModel", "whyNot", "(II)I"⟩, 17), (⟨"IronCallModel", "whyNone", "(I)I"⟩, 17), (⟨"IronCallModel", "fitting", "(IIIII)I"⟩, 17), (⟨"IronCallModel", "draw", "()I"⟩, 17), (⟨"IronCallModel", "items", "()I"⟩, 17), (⟨"IronCallModel", "next", "()V"⟩, 17), (⟨"IronCallModel", "byteAt", "(I)I"⟩, 17), (⟨"IronCallModel", "item", "()V"⟩, 17), (⟨"IronCallModel", "kindHere", "()I"⟩, 17), (⟨"IronCallModel", "isWord", "(J)Z"⟩, 17), (⟨"IronCallModel", "thingHere", "(I)V"⟩, 17), (⟨"IronCallModel", "wrongHere", "()V"⟩, 17), (⟨"IronCallModel", "perhaps", "(JIII)V"⟩, 17), (⟨"IronCallModel", "numberHere", "(II)I"⟩, 17)]
theorem lw_r3 : ∀ q ∈ lw_privs_3, lw_okq q := List.forall_mem_cons.mpr ⟨lw_p32, List.forall_mem_cons.mpr ⟨lw_p33, List.forall_mem_cons.mpr ⟨lw_p34, List.forall_mem_cons.mpr ⟨lw_p35, List.forall_mem_cons.mpr ⟨lw_p36, List.forall_mem_cons.mpr ⟨lw_p37, List.forall_mem_cons.mpr ⟨lw_p38, List.forall_mem_cons.mpr ⟨lw_p39, List.forall_mem_cons.mpr ⟨lw_p40, List.forall_mem_cons.mpr ⟨lw_p41, List.forall_mem_cons.mpr ⟨lw_p42, List.forall_mem_cons.mpr ⟨lw_p43, List.forall_mem_cons.mpr ⟨lw_p44, List.forall_mem_cons.mpr ⟨lw_p45, List.forall_mem_cons.mpr ⟨lw_p46, List.forall_mem_cons.mpr ⟨lw_p47, fun _ h => absurd h List.not_mem_nil⟩⟩⟩⟩⟩⟩⟩⟩⟩⟩⟩⟩⟩⟩⟩⟩
theorem lw_p48 : lw_okq (⟨"IronCallModel", "cartHere", "()V"⟩, 17) := ⟨⟨by decide +kernel, by decide +kernel⟩, List.mem_of_getElem? (i := 792) (by decide +kernel), List.mem_of_getElem? (i := 1188) (by decide +kernel), List.mem_of_getElem? (i := 1189) (by decide +kernel)⟩
theorem lw_p49 : lw_okq (⟨"IronCallModel", "holding", "()I"⟩, 17) := ⟨⟨by decide +kernel, by decide +kernel⟩, List.mem_of_getElem? (i := 792) (by decide +kernel), List.mem_of_getElem? (i := 1244) (by decide +kernel), List.mem_of_getElem? (i := 1245) (by decide +kernel)⟩
def lw_privs_4 : List (MethodName × Nat) := [(⟨"IronCallModel", "cartHere", "()V"⟩, 17), (⟨"IronCallModel", "holding", "()I"⟩, 17)]
theorem lw_r4 : ∀ q ∈ lw_privs_4, lw_okq q := List.forall_mem_cons.mpr ⟨lw_p48, List.forall_mem_cons.mpr ⟨lw_p49, fun _ h => absurd h List.not_mem_nil⟩⟩
def lw_privs : List (MethodName × Nat) := lw_privs_1 ++ (lw_privs_2 ++ (lw_privs_3 ++ (lw_privs_4)))
def lw_tbl : List Cond := k2_sels lw_privs ++ tables_1
theorem lw_privs_ok : ∀ q ∈ lw_privs, lw_okq q := by
  show ∀ q ∈ lw_privs_1 ++ (lw_privs_2 ++ (lw_privs_3 ++ (lw_privs_4))), lw_okq q
  exact List.forall_mem_append.mpr ⟨lw_r1, List.forall_mem_append.mpr ⟨lw_r2, List.forall_mem_append.mpr ⟨lw_r3, lw_r4⟩⟩⟩
end
section
/-- the words that stay -/
def lw_gd : List Cond := lw_tbl.filter goodWord
theorem lw_gd_in : ∀ w ∈ lw_gd, w ∈ lw_tbl := fun w h => (List.mem_filter.mp h).1
theorem lw_gd_good : GoodIn lw_gd lw_gd := fun w h => ⟨h, good_of_word (List.mem_filter.mp h).2⟩
theorem ic_mg (i : Nat) {w : Cond} (h : tables_1[i]? = some w) (hg : goodWord w = true) : w ∈ lw_gd := List.mem_filter.mpr ⟨List.mem_append_right _ (List.mem_of_getElem? h), hg⟩
theorem ic_mp (i : Nat) {w : Cond} (h : (k2_sels lw_privs)[i]? = some w) (hg : goodWord w = true) : w ∈ lw_gd := List.mem_filter.mpr ⟨List.mem_append_left _ (List.mem_of_getElem? h), hg⟩
def RX0 : String := "IronCall$Reader"
def TX0 : u_T := fun k => match k with
  | 0 => ("IronCall$Reader", "tokens", "LIronCall$Tokens;", true)
  | 1 => ("IronCall$Reader", "street", "LIronCall$Street;", true)
  | 2 => ("IronCall$Reader", "next", "I", false)
  | _ => ("IronCall$Reader", "isFaulty", "Z", false)
def tyX0 : Nat → FieldType := fun k => match k with
  | 0 => .object "IronCall$Tokens"
  | 1 => .object "IronCall$Street"
  | 2 => .int
  | _ => .boolean
theorem nmX0 : ∀ a, a < 4 → ∀ b, b < 4 → a ≠ b → (TX0 a).2.1 ≠ (TX0 b).2.1 := by decide +kernel
theorem tyX0_ok : ∀ k, k < 4 → parseFieldDescriptor (TX0 k).2.2.1 = some (tyX0 k) := by decide +kernel
theorem inX0 : ∀ w ∈ u_ws RX0 TX0 4, w ∈ lw_gd := by decide +kernel
def RX1 : String := "IronCall$Sheet"
def TX1 : u_T := fun k => match k with
  | 0 => ("IronCall$Sheet", "bits", "I", false)
  | 1 => ("IronCall$Sheet", "size", "I", false)
  | _ => ("IronCall$Sheet", "numbers", "[I", true)
def tyX1 : Nat → FieldType := fun k => match k with
  | 0 => .int
  | 1 => .int
  | _ => .array .int
theorem nmX1 : ∀ a, a < 3 → ∀ b, b < 3 → a ≠ b → (TX1 a).2.1 ≠ (TX1 b).2.1 := by decide +kernel
theorem tyX1_ok : ∀ k, k < 3 → parseFieldDescriptor (TX1 k).2.2.1 = some (tyX1 k) := by decide +kernel
theorem inX1 : ∀ w ∈ u_ws RX1 TX1 3, w ∈ lw_gd := by decide +kernel
def RX2 : String := "IronCall$Street"
def TX2 : u_T := fun k => match k with
  | 0 => ("IronCall$Street", "cell", "I", false)
  | 1 => ("IronCall$Street", "way", "I", false)
  | 2 => ("IronCall$Street", "pace", "I", false)
  | 3 => ("IronCall$Street", "loud", "I", false)
  | 4 => ("IronCall$Street", "callNumber", "I", false)
  | 5 => ("IronCall$Street", "z", "I", false)
  | 6 => ("IronCall$Street", "made", "I", false)
  | 7 => ("IronCall$Street", "things", "[LIronCall$Thing;", true)
  | _ => ("IronCall$Street", "spots", "[I", true)
def tyX2 : Nat → FieldType := fun k => match k with
  | 0 => .int
  | 1 => .int
  | 2 => .int
  | 3 => .int
  | 4 => .int
  | 5 => .int
  | 6 => .int
  | 7 => .array (.object "IronCall$Thing")
  | _ => .array .int
theorem nmX2 : ∀ a, a < 9 → ∀ b, b < 9 → a ≠ b → (TX2 a).2.1 ≠ (TX2 b).2.1 := by decide +kernel
theorem tyX2_ok : ∀ k, k < 9 → parseFieldDescriptor (TX2 k).2.2.1 = some (tyX2 k) := by decide +kernel
theorem inX2 : ∀ w ∈ u_ws RX2 TX2 9, w ∈ lw_gd := by decide +kernel
def RX3 : String := "IronCall$Tape"
def TX3 : u_T := fun k => match k with
  | 0 => ("IronCall$Tape", "size", "I", false)
  | _ => ("IronCall$Tape", "bytes", "[I", true)
def tyX3 : Nat → FieldType := fun k => match k with
  | 0 => .int
  | _ => .array .int
theorem nmX3 : ∀ a, a < 2 → ∀ b, b < 2 → a ≠ b → (TX3 a).2.1 ≠ (TX3 b).2.1 := by decide +kernel
theorem tyX3_ok : ∀ k, k < 2 → parseFieldDescriptor (TX3 k).2.2.1 = some (tyX3 k) := by decide +kernel
theorem inX3 : ∀ w ∈ u_ws RX3 TX3 2, w ∈ lw_gd := by decide +kernel
def RX4 : String := "IronCall$Thing"
def TX4 : u_T := fun k => match k with
  | 0 => ("IronCall$Thing", "number", "I", true)
  | 1 => ("IronCall$Thing", "kind", "I", false)
  | 2 => ("IronCall$Thing", "cell", "I", false)
  | 3 => ("IronCall$Thing", "heavy", "I", false)
  | 4 => ("IronCall$Thing", "pulled", "I", false)
  | 5 => ("IronCall$Thing", "moved", "I", false)
  | 6 => ("IronCall$Thing", "isHeld", "Z", false)
  | _ => ("IronCall$Thing", "isTaken", "Z", false)
def tyX4 : Nat → FieldType := fun k => match k with
  | 0 => .int
  | 1 => .int
  | 2 => .int
  | 3 => .int
  | 4 => .int
  | 5 => .int
  | 6 => .boolean
  | _ => .boolean
theorem nmX4 : ∀ a, a < 8 → ∀ b, b < 8 → a ≠ b → (TX4 a).2.1 ≠ (TX4 b).2.1 := by decide +kernel
theorem tyX4_ok : ∀ k, k < 8 → parseFieldDescriptor (TX4 k).2.2.1 = some (tyX4 k) := by decide +kernel
theorem inX4 : ∀ w ∈ u_ws RX4 TX4 8, w ∈ lw_gd := by decide +kernel
def RX5 : String := "IronCall$Tokens"
def TX5 : u_T := fun k => match k with
  | 0 => ("IronCall$Tokens", "tape", "LIronCall$Tape;", true)
  | 1 => ("IronCall$Tokens", "size", "I", false)
  | 2 => ("IronCall$Tokens", "sorts", "[I", true)
  | 3 => ("IronCall$Tokens", "places", "[I", true)
  | _ => ("IronCall$Tokens", "values", "[I", true)
def tyX5 : Nat → FieldType := fun k => match k with
  | 0 => .object "IronCall$Tape"
  | 1 => .int
  | 2 => .array .int
  | 3 => .array .int
  | _ => .array .int
theorem nmX5 : ∀ a, a < 5 → ∀ b, b < 5 → a ≠ b → (TX5 a).2.1 ≠ (TX5 b).2.1 := by decide +kernel
theorem tyX5_ok : ∀ k, k < 5 → parseFieldDescriptor (TX5 k).2.2.1 = some (tyX5 k) := by decide +kernel
theorem inX5 : ∀ w ∈ u_ws RX5 TX5 5, w ∈ lw_gd := by decide +kernel
def RX6 : String := "IronCall"
def TX6 : u_T := fun k => match k with
  | 0 => ("IronCall", "street", "LIronCall$Street;", true)
  | 1 => ("IronCall", "trial", "LIronCall$Street;", true)
  | 2 => ("IronCall", "kept", "LIronCall$Street;", true)
  | 3 => ("IronCall", "hasKept", "Z", false)
  | 4 => ("IronCall", "tape", "LIronCall$Tape;", true)
  | 5 => ("IronCall", "tokens", "LIronCall$Tokens;", true)
  | 6 => ("IronCall", "reader", "LIronCall$Reader;", true)
  | 7 => ("IronCall", "sheets", "[LIronCall$Sheet;", true)
  | _ => ("IronCall", "findings", "[I", true)
def tyX6 : Nat → FieldType := fun k => match k with
  | 0 => .object "IronCall$Street"
  | 1 => .object "IronCall$Street"
  | 2 => .object "IronCall$Street"
  | 3 => .boolean
  | 4 => .object "IronCall$Tape"
  | 5 => .object "IronCall$Tokens"
  | 6 => .object "IronCall$Reader"
  | 7 => .array (.object "IronCall$Sheet")
  | _ => .array .int
theorem nmX6 : ∀ a, a < 9 → ∀ b, b < 9 → a ≠ b → (TX6 a).2.1 ≠ (TX6 b).2.1 := by decide +kernel
theorem tyX6_ok : ∀ k, k < 9 → parseFieldDescriptor (TX6 k).2.2.1 = some (tyX6 k) := by decide +kernel
theorem inX6 : ∀ w ∈ u_ws RX6 TX6 9, w ∈ lw_gd := by decide +kernel
def RX7 : String := "IronCallModel"
def TX7 : u_T := fun k => match k with
  | 0 => ("IronCallModel", "d", "[I", true)
  | 1 => ("IronCallModel", "e", "[I", true)
  | 2 => ("IronCallModel", "aside", "[I", true)
  | 3 => ("IronCallModel", "kept", "[I", true)
  | 4 => ("IronCallModel", "isKept", "Z", false)
  | 5 => ("IronCallModel", "found", "[I", true)
  | 6 => ("IronCallModel", "tape", "[B", true)
  | 7 => ("IronCallModel", "taped", "I", false)
  | 8 => ("IronCallModel", "at", "I", false)
  | 9 => ("IronCallModel", "sort", "I", false)
  | 10 => ("IronCallModel", "from", "I", false)
  | 11 => ("IronCallModel", "value", "J", false)
  | 12 => ("IronCallModel", "fault", "I", false)
  | 13 => ("IronCallModel", "bitsOf", "[I", true)
  | 14 => ("IronCallModel", "sizeOf", "[I", true)
  | 15 => ("IronCallModel", "number", "[I", true)
  | _ => ("IronCallModel", "passing", "[I", true)
def tyX7 : Nat → FieldType := fun k => match k with
  | 0 => .array .int
  | 1 => .array .int
  | 2 => .array .int
  | 3 => .array .int
  | 4 => .boolean
  | 5 => .array .int
  | 6 => .array .byte
  | 7 => .int
  | 8 => .int
  | 9 => .int
  | 10 => .int
  | 11 => .long
  | 12 => .int
  | 13 => .array .int
  | 14 => .array .int
  | 15 => .array .int
  | _ => .array .int
theorem nmX7 : ∀ a, a < 17 → ∀ b, b < 17 → a ≠ b → (TX7 a).2.1 ≠ (TX7 b).2.1 := by decide +kernel
theorem tyX7_ok : ∀ k, k < 17 → parseFieldDescriptor (TX7 k).2.2.1 = some (tyX7 k) := by decide +kernel
theorem inX7 : ∀ w ∈ u_ws RX7 TX7 17, w ∈ lw_gd := by decide +kernel
abbrev ic_cls : List vw_C := [(RX0, TX0, 4), (RX1, TX1, 3), (RX2, TX2, 9), (RX3, TX3, 2), (RX4, TX4, 8), (RX5, TX5, 5), (RX6, TX6, 9), (RX7, TX7, 17)]
def ic_ty (ci : Nat) : Nat → FieldType := match ci with
  | 0 => tyX0
  | 1 => tyX1
  | 2 => tyX2
  | 3 => tyX3
  | 4 => tyX4
  | 5 => tyX5
  | 6 => tyX6
  | _ => tyX7
theorem ic_cls_in (ci : Nat) (q : vw_C) (h : ic_cls[ci]? = some q) : ∀ w ∈ u_ws q.1 q.2.1 q.2.2, w ∈ lw_gd := by
  match ci, h with
  | 0, h => cases h; exact inX0
  | 1, h => cases h; exact inX1
  | 2, h => cases h; exact inX2
  | 3, h => cases h; exact inX3
  | 4, h => cases h; exact inX4
  | 5, h => cases h; exact inX5
  | 6, h => cases h; exact inX6
  | 7, h => cases h; exact inX7
  | n + 8, h => simp at h
theorem ic_cls_ty (ci : Nat) (q : vw_C) (h : ic_cls[ci]? = some q) : ∀ k, k < q.2.2 → parseFieldDescriptor (q.2.1 k).2.2.1 = some (ic_ty ci k) := by
  match ci, h with
  | 0, h => cases h; exact tyX0_ok
  | 1, h => cases h; exact tyX1_ok
  | 2, h => cases h; exact tyX2_ok
  | 3, h => cases h; exact tyX3_ok
  | 4, h => cases h; exact tyX4_ok
  | 5, h => cases h; exact tyX5_ok
  | 6, h => cases h; exact tyX6_ok
  | 7, h => cases h; exact tyX7_ok
  | n + 8, h => simp at h
theorem ic_cls_nm (ci : Nat) (q : vw_C) (h : ic_cls[ci]? = some q) : ∀ a, a < q.2.2 → ∀ b, b < q.2.2 → a ≠ b → (q.2.1 a).2.1 ≠ (q.2.1 b).2.1 := by
  match ci, h with
  | 0, h => cases h; exact nmX0
  | 1, h => cases h; exact nmX1
  | 2, h => cases h; exact nmX2
  | 3, h => cases h; exact nmX3
  | 4, h => cases h; exact nmX4
  | 5, h => cases h; exact nmX5
  | 6, h => cases h; exact nmX6
  | 7, h => cases h; exact nmX7
  | n + 8, h => simp at h
abbrev ic_K : Type := Nat × Nat × Nat
abbrev ic_V : Type := Int32 ⊕ Int64 ⊕ Option ic_K
abbrev ic_S : Type := (Nat → Nat → Int32) × Int64
abbrev ic_L : Type := List (Nat × ic_V)
abbrev ic_X : Type := (Nat → Nat → Nat → Nat) × va_G × (Nat → ClassId) × Option Nat
abbrev ic_M : Type := MethodName × ByteArray × Nat × Option FieldType × Nat × Nat × List (List (Nat × Instr × Nat × Nat))
abbrev ic_I (x : Int32) : ic_V := .inl x
abbrev ic_J (x : Int64) : ic_V := .inr (.inl x)
abbrev ic_R (C s t : Nat) : ic_V := .inr (.inr (some (C, s, t)))
abbrev ic_N : ic_V := .inr (.inr none)
abbrev ic_O (C : Nat) (o : Option (Nat × Nat)) : ic_V := .inr (.inr (o.map fun k => (C, k.1, k.2)))
def ic_cel (κ : ic_X) (g : ic_S) (x : ic_K) : va_E := match x with
  | (0, _, _) => .inr (6, [.ref (κ.1 1 0 0), .ref (κ.1 1 1 0), .ref (κ.1 1 2 0), .int (g.1 7 0), .ref (κ.1 5 0 0), .ref (κ.1 7 0 0), .ref (κ.1 11 0 0), .ref (κ.1 12 0 0), .ref (κ.1 15 0 0)])
  | (1, s, _) => .inr (2, [.int (g.1 s 3), .int (g.1 s 4), .int (g.1 s 5), .int (g.1 s 6), .int (g.1 s 1), .int (g.1 s 2), .int (g.1 s 0), .ref (κ.1 2 s 0), .ref (κ.1 4 s 0)])
  | (2, s, _) => .inl (κ.2.2.1 2, 8, .inr (.inr (.inr (.inr (fun j => some (κ.1 3 s j))))))
  | (3, s, t) => .inr (4, [.int (Int32.ofNat t), .int (g.1 s (7 + t)), .int (g.1 s (15 + t)), .int (g.1 s (23 + t)), .int (g.1 s (31 + t)), .int (g.1 s (55 + t)), .int (g.1 s (39 + t)), .int (g.1 s (47 + t))])
  | (4, s, _) => .inl (κ.2.2.1 0, 10, .inl (fun j => g.1 s (63 + j)))
  | (5, _, _) => .inr (3, [.int (g.1 8 0), .ref (κ.1 6 0 0)])
  | (6, _, _) => .inl (κ.2.2.1 0, 120, .inl (fun j => g.1 9 (0 + j)))
  | (7, _, _) => .inr (5, [.ref (κ.1 5 0 0), .int (g.1 10 0), .ref (κ.1 8 0 0), .ref (κ.1 9 0 0), .ref (κ.1 10 0 0)])
  | (8, _, _) => .inl (κ.2.2.1 0, 121, .inl (fun j => g.1 11 (0 + j)))
  | (9, _, _) => .inl (κ.2.2.1 0, 121, .inl (fun j => g.1 12 (0 + j)))
  | (10, _, _) => .inl (κ.2.2.1 0, 121, .inl (fun j => g.1 13 (0 + j)))
  | (11, _, _) => .inr (0, [.ref (κ.1 7 0 0), .ref (κ.1 1 1 0), .int (g.1 14 0), .int (g.1 14 1)])
  | (12, _, _) => .inl (κ.2.2.1 3, 4, .inr (.inr (.inr (.inr (fun j => some (κ.1 13 j 0))))))
  | (13, s, _) => .inr (1, [.int (g.1 (15 + s) 0), .int (g.1 (15 + s) 1), .ref (κ.1 14 s 0)])
  | (14, s, _) => .inl (κ.2.2.1 0, 40, .inl (fun j => g.1 (19 + s) (0 + j)))
  | (15, _, _) => .inl (κ.2.2.1 0, 7, .inl (fun j => g.1 23 (0 + j)))
  | (16, _, _) => .inr (7, [.ref (κ.1 17 0 0), .ref (κ.1 17 1 0), .ref (κ.1 17 2 0), .ref (κ.1 17 3 0), .int (g.1 24 0), .ref (κ.1 18 0 0), .ref (κ.1 19 0 0), .int (g.1 24 1), .int (g.1 24 2), .int (g.1 24 3), .int (g.1 24 4), .long g.2, .int (g.1 24 5), .ref (κ.1 20 0 0), .ref (κ.1 21 0 0), .ref (κ.1 22 0 0), .ref (κ.1 23 0 0)])
  | (17, s, _) => .inl (κ.2.2.1 0, 73, .inl (fun j => g.1 (3 + s) (0 + j)))
  | (18, _, _) => .inl (κ.2.2.1 0, 7, .inl (fun j => g.1 25 (0 + j)))
  | (19, _, _) => .inl (κ.2.2.1 1, 120, .inl (fun j => g.1 26 (0 + j)))
  | (20, _, _) => .inl (κ.2.2.1 0, 4, .inl (fun j => g.1 27 (0 + j)))
  | (21, _, _) => .inl (κ.2.2.1 0, 4, .inl (fun j => g.1 28 (0 + j)))
  | (22, _, _) => .inl (κ.2.2.1 0, 160, .inl (fun j => g.1 29 (0 + j)))
  | (23, _, _) => .inl (κ.2.2.1 0, 40, .inl (fun j => g.1 30 (0 + j)))
  | _ => .inl (0, 0, .inl fun _ => 0)
def ic_keys : List ic_K := [(0, 0, 0), (1, 0, 0), (1, 1, 0), (1, 2, 0), (2, 0, 0), (2, 1, 0), (2, 2, 0), (3, 0, 0), (3, 0, 1), (3, 0, 2), (3, 0, 3), (3, 0, 4), (3, 0, 5), (3, 0, 6), (3, 0, 7), (3, 1, 0), (3, 1, 1), (3, 1, 2), (3, 1, 3), (3, 1, 4), (3, 1, 5), (3, 1, 6), (3, 1, 7), (3, 2, 0), (3, 2, 1), (3, 2, 2), (3, 2, 3), (3, 2, 4), (3, 2, 5), (3, 2, 6), (3, 2, 7), (4, 0, 0), (4, 1, 0), (4, 2, 0), (5, 0, 0), (6, 0, 0), (7, 0, 0), (8, 0, 0), (9, 0, 0), (10, 0, 0), (11, 0, 0), (12, 0, 0), (13, 0, 0), (13, 1, 0), (13, 2, 0), (13, 3, 0), (14, 0, 0), (14, 1, 0), (14, 2, 0), (14, 3, 0), (15, 0, 0), (16, 0, 0), (17, 0, 0), (17, 1, 0), (17, 2, 0), (17, 3, 0), (18, 0, 0), (19, 0, 0), (20, 0, 0), (21, 0, 0), (22, 0, 0), (23, 0, 0)]
def ic_ns (C : Nat) : Nat := match C with
  | 1 => 3
  | 2 => 3
  | 3 => 3
  | 4 => 3
  | 13 => 4
  | 14 => 4
  | 17 => 4
  | _ => 1
def ic_nt (C : Nat) : Nat := match C with
  | 3 => 8
  | _ => 1
theorem ic_bnd : ∀ x ∈ ic_keys, x.1 < 24 ∧ x.2.1 < ic_ns x.1 ∧ x.2.2 < ic_nt x.1 := by decide +kernel
theorem ic_memk0 : ((List.range 24).all fun C => (List.range (ic_ns C)).all fun s => (List.range (ic_nt C)).all fun t => ic_keys.any fun k => k.1 == C && (k.2.1 == s && k.2.2 == t)) = true := by decide +kernel
theorem ic_memk (C : Nat) (hC : C < 24) (s : Nat) (hs : s < ic_ns C) (t : Nat) (ht : t < ic_nt C) : (C, s, t) ∈ ic_keys := by
  have h := List.all_eq_true.mp (List.all_eq_true.mp (List.all_eq_true.mp ic_memk0 C (List.mem_range.mpr hC)) s (List.mem_range.mpr hs)) t (List.mem_range.mpr ht)
  obtain ⟨k, hk, e⟩ := List.any_eq_true.mp h
  obtain ⟨k1, k2, k3⟩ := k
  simp only [Bool.and_eq_true, beq_iff_eq] at e
  obtain ⟨rfl, rfl, rfl⟩ := e
  exact hk
theorem ic_nd : ic_keys.Nodup := by decide +kernel
def ic_own (b i : Nat) : ic_K := match b with
  | 0 => if i < 7 then (1, 0, 0) else if i < 63 then (3, 0, (i - 7) % 8) else (4, 0, 0)
  | 1 => if i < 7 then (1, 1, 0) else if i < 63 then (3, 1, (i - 7) % 8) else (4, 1, 0)
  | 2 => if i < 7 then (1, 2, 0) else if i < 63 then (3, 2, (i - 7) % 8) else (4, 2, 0)
  | 3 => (17, 0, 0)
  | 4 => (17, 1, 0)
  | 5 => (17, 2, 0)
  | 6 => (17, 3, 0)
  | 15 => (13, 0, 0)
  | 16 => (13, 1, 0)
  | 17 => (13, 2, 0)
  | 18 => (13, 3, 0)
  | 19 => (14, 0, 0)
  | 20 => (14, 1, 0)
  | 21 => (14, 2, 0)
  | 22 => (14, 3, 0)
  | 7 => (0, 0, 0)
  | 8 => (5, 0, 0)
  | 9 => (6, 0, 0)
  | 10 => (7, 0, 0)
  | 11 => (8, 0, 0)
  | 12 => (9, 0, 0)
  | 13 => (10, 0, 0)
  | 14 => (11, 0, 0)
  | 23 => (15, 0, 0)
  | 24 => (16, 0, 0)
  | 25 => (18, 0, 0)
  | 26 => (19, 0, 0)
  | 27 => (20, 0, 0)
  | 28 => (21, 0, 0)
  | 29 => (22, 0, 0)
  | 30 => (23, 0, 0)
  | _ => (99, 0, 0)
def ic_up (g : ic_S) (b i : Nat) (v : Int32) : ic_S := (fun b' i' => if b' = b ∧ i' = i then v else g.1 b' i', g.2)
def ic_upl (g : ic_S) (v : Int64) : ic_S := (g.1, v)
theorem ic_no {g : ic_S} {b i : Nat} {v : Int32} {b' i' : Nat} {y : ic_K} (h : ic_own b i ≠ y) (h' : ic_own b' i' = y) : (ic_up g b i v).1 b' i' = g.1 b' i' := by
  show (if b' = b ∧ i' = i then v else g.1 b' i') = g.1 b' i'
  rw [if_neg]
  rintro ⟨rfl, rfl⟩
  exact h h'
theorem ic_oth_l (κ : ic_X) (g : ic_S) (v : Int64) : ∀ y ∈ ic_keys, y ≠ (16, 0, 0) → ic_cel κ (ic_upl g v) y = ic_cel κ g y := by
  intro y hy hne
  have hb := ic_bnd y hy
  obtain ⟨C, s, t⟩ := y
  match C, hb, hne with
  | 0, hb, hne => rfl
  | 1, hb, hne => rfl
  | 2, hb, hne => rfl
  | 3, hb, hne => rfl
  | 4, hb, hne => rfl
  | 5, hb, hne => rfl
  | 6, hb, hne => rfl
  | 7, hb, hne => rfl
  | 8, hb, hne => rfl
  | 9, hb, hne => rfl
  | 10, hb, hne => rfl
  | 11, hb, hne => rfl
  | 12, hb, hne => rfl
  | 13, hb, hne => rfl
  | 14, hb, hne => rfl
  | 15, hb, hne => rfl
  | 16, hb, hne =>
    exfalso
    apply hne
    have h1 : s < 1 := hb.2.1
    have h2 : t < 1 := hb.2.2
    have e1 : s = 0 := by omega
    have e2 : t = 0 := by omega
    rw [e1, e2]
  | 17, hb, hne => rfl
  | 18, hb, hne => rfl
  | 19, hb, hne => rfl
  | 20, hb, hne => rfl
  | 21, hb, hne => rfl
  | 22, hb, hne => rfl
  | 23, hb, hne => rfl
  | n + 24, hb, hne => exact absurd hb.1 (by show ¬ (n + 24 < 24); omega)
theorem ic_oth (κ : ic_X) (g : ic_S) (b i : Nat) (v : Int32) : ∀ y ∈ ic_keys, ic_own b i ≠ y → ic_cel κ (ic_up g b i v) y = ic_cel κ g y := by
  intro y hy hne
  have hb := ic_bnd y hy
  obtain ⟨C, s, t⟩ := y
  match C, hb, hne with
  | 0, hb, hne =>
    have h1 : s < 1 := hb.2.1
    have h2 : t < 1 := hb.2.2
    have e2 : t = 0 := by omega
    subst e2
    have e1 : s = 0 := by omega
    subst e1
    have h_hasKept : (ic_up g b i v).1 7 0 = g.1 7 0 := by
      refine ic_no hne ?_
      rfl
    simp only [ic_cel, h_hasKept]
  | 1, hb, hne =>
    have h1 : s < 3 := hb.2.1
    have h2 : t < 1 := hb.2.2
    have e2 : t = 0 := by omega
    subst e2
    have h_cell : (ic_up g b i v).1 s 3 = g.1 s 3 := by
      refine ic_no hne ?_
      rcases (show s = 0 ∨ s = 1 ∨ s = 2 by omega) with rfl | rfl | rfl <;> rfl
    have h_way : (ic_up g b i v).1 s 4 = g.1 s 4 := by
      refine ic_no hne ?_
      rcases (show s = 0 ∨ s = 1 ∨ s = 2 by omega) with rfl | rfl | rfl <;> rfl
    have h_pace : (ic_up g b i v).1 s 5 = g.1 s 5 := by
      refine ic_no hne ?_
      rcases (show s = 0 ∨ s = 1 ∨ s = 2 by omega) with rfl | rfl | rfl <;> rfl
    have h_loud : (ic_up g b i v).1 s 6 = g.1 s 6 := by
      refine ic_no hne ?_
      rcases (show s = 0 ∨ s = 1 ∨ s = 2 by omega) with rfl | rfl | rfl <;> rfl
    have h_callNumber : (ic_up g b i v).1 s 1 = g.1 s 1 := by
      refine ic_no hne ?_
      rcases (show s = 0 ∨ s = 1 ∨ s = 2 by omega) with rfl | rfl | rfl <;> rfl
    have h_z : (ic_up g b i v).1 s 2 = g.1 s 2 := by
      refine ic_no hne ?_
      rcases (show s = 0 ∨ s = 1 ∨ s = 2 by omega) with rfl | rfl | rfl <;> rfl
    have h_made : (ic_up g b i v).1 s 0 = g.1 s 0 := by
      refine ic_no hne ?_
      rcases (show s = 0 ∨ s = 1 ∨ s = 2 by omega) with rfl | rfl | rfl <;> rfl
    simp only [ic_cel, h_cell, h_way, h_pace, h_loud, h_callNumber, h_z, h_made]
  | 2, hb, hne =>
    rfl
  | 3, hb, hne =>
    have h1 : s < 3 := hb.2.1
    have h2 : t < 8 := hb.2.2
    have h_kind : (ic_up g b i v).1 s (7 + t) = g.1 s (7 + t) := by
      refine ic_no hne ?_
      rcases (show s = 0 ∨ s = 1 ∨ s = 2 by omega) with rfl | rfl | rfl
      all_goals (show (if (7 + t) < 7 then _ else if (7 + t) < 63 then _ else _) = _; rw [if_neg (by omega), if_pos (by omega), show ((7 + t) - 7) % 8 = t by omega])
    have h_cell : (ic_up g b i v).1 s (15 + t) = g.1 s (15 + t) := by
      refine ic_no hne ?_
      rcases (show s = 0 ∨ s = 1 ∨ s = 2 by omega) with rfl | rfl | rfl
      all_goals (show (if (15 + t) < 7 then _ else if (15 + t) < 63 then _ else _) = _; rw [if_neg (by omega), if_pos (by omega), show ((15 + t) - 7) % 8 = t by omega])
    have h_heavy : (ic_up g b i v).1 s (23 + t) = g.1 s (23 + t) := by
      refine ic_no hne ?_
      rcases (show s = 0 ∨ s = 1 ∨ s = 2 by omega) with rfl | rfl | rfl
      all_goals (show (if (23 + t) < 7 then _ else if (23 + t) < 63 then _ else _) = _; rw [if_neg (by omega), if_pos (by omega), show ((23 + t) - 7) % 8 = t by omega])
    have h_pulled : (ic_up g b i v).1 s (31 + t) = g.1 s (31 + t) := by
      refine ic_no hne ?_
      rcases (show s = 0 ∨ s = 1 ∨ s = 2 by omega) with rfl | rfl | rfl
      all_goals (show (if (31 + t) < 7 then _ else if (31 + t) < 63 then _ else _) = _; rw [if_neg (by omega), if_pos (by omega), show ((31 + t) - 7) % 8 = t by omega])
    have h_moved : (ic_up g b i v).1 s (55 + t) = g.1 s (55 + t) := by
      refine ic_no hne ?_
      rcases (show s = 0 ∨ s = 1 ∨ s = 2 by omega) with rfl | rfl | rfl
      all_goals (show (if (55 + t) < 7 then _ else if (55 + t) < 63 then _ else _) = _; rw [if_neg (by omega), if_pos (by omega), show ((55 + t) - 7) % 8 = t by omega])
    have h_isHeld : (ic_up g b i v).1 s (39 + t) = g.1 s (39 + t) := by
      refine ic_no hne ?_
      rcases (show s = 0 ∨ s = 1 ∨ s = 2 by omega) with rfl | rfl | rfl
      all_goals (show (if (39 + t) < 7 then _ else if (39 + t) < 63 then _ else _) = _; rw [if_neg (by omega), if_pos (by omega), show ((39 + t) - 7) % 8 = t by omega])
    have h_isTaken : (ic_up g b i v).1 s (47 + t) = g.1 s (47 + t) := by
      refine ic_no hne ?_
      rcases (show s = 0 ∨ s = 1 ∨ s = 2 by omega) with rfl | rfl | rfl
      all_goals (show (if (47 + t) < 7 then _ else if (47 + t) < 63 then _ else _) = _; rw [if_neg (by omega), if_pos (by omega), show ((47 + t) - 7) % 8 = t by omega])
    simp only [ic_cel, h_kind, h_cell, h_heavy, h_pulled, h_moved, h_isHeld, h_isTaken]
  | 4, hb, hne =>
    have h1 : s < 3 := hb.2.1
    have h2 : t < 1 := hb.2.2
    have e2 : t = 0 := by omega
    subst e2
    have h : ∀ j, (ic_up g b i v).1 s (63 + j) = g.1 s (63 + j) := by
      intro j
      refine ic_no hne ?_
      rcases (show s = 0 ∨ s = 1 ∨ s = 2 by omega) with rfl | rfl | rfl
      all_goals (show (if 63 + j < 7 then _ else if 63 + j < 63 then _ else _) = _; rw [if_neg (by omega), if_neg (by omega)])
    simp only [ic_cel, h]
  | 5, hb, hne =>
    have h1 : s < 1 := hb.2.1
    have h2 : t < 1 := hb.2.2
    have e2 : t = 0 := by omega
    subst e2
    have e1 : s = 0 := by omega
    subst e1
    have h_size : (ic_up g b i v).1 8 0 = g.1 8 0 := by
      refine ic_no hne ?_
      rfl
    simp only [ic_cel, h_size]
  | 6, hb, hne =>
    have h1 : s < 1 := hb.2.1
    have h2 : t < 1 := hb.2.2
    have e2 : t = 0 := by omega
    subst e2
    have e1 : s = 0 := by omega
    subst e1
    have h : ∀ j, (ic_up g b i v).1 9 (0 + j) = g.1 9 (0 + j) := by
      intro j
      refine ic_no hne ?_
      rfl
    simp only [ic_cel, h]
  | 7, hb, hne =>
    have h1 : s < 1 := hb.2.1
    have h2 : t < 1 := hb.2.2
    have e2 : t = 0 := by omega
    subst e2
    have e1 : s = 0 := by omega
    subst e1
    have h_size : (ic_up g b i v).1 10 0 = g.1 10 0 := by
      refine ic_no hne ?_
      rfl
    simp only [ic_cel, h_size]
  | 8, hb, hne =>
    have h1 : s < 1 := hb.2.1
    have h2 : t < 1 := hb.2.2
    have e2 : t = 0 := by omega
    subst e2
    have e1 : s = 0 := by omega
    subst e1
    have h : ∀ j, (ic_up g b i v).1 11 (0 + j) = g.1 11 (0 + j) := by
      intro j
      refine ic_no hne ?_
      rfl
    simp only [ic_cel, h]
  | 9, hb, hne =>
    have h1 : s < 1 := hb.2.1
    have h2 : t < 1 := hb.2.2
    have e2 : t = 0 := by omega
    subst e2
    have e1 : s = 0 := by omega
    subst e1
    have h : ∀ j, (ic_up g b i v).1 12 (0 + j) = g.1 12 (0 + j) := by
      intro j
      refine ic_no hne ?_
      rfl
    simp only [ic_cel, h]
  | 10, hb, hne =>
    have h1 : s < 1 := hb.2.1
    have h2 : t < 1 := hb.2.2
    have e2 : t = 0 := by omega
    subst e2
    have e1 : s = 0 := by omega
    subst e1
    have h : ∀ j, (ic_up g b i v).1 13 (0 + j) = g.1 13 (0 + j) := by
      intro j
      refine ic_no hne ?_
      rfl
    simp only [ic_cel, h]
  | 11, hb, hne =>
    have h1 : s < 1 := hb.2.1
    have h2 : t < 1 := hb.2.2
    have e2 : t = 0 := by omega
    subst e2
    have e1 : s = 0 := by omega
    subst e1
    have h_next : (ic_up g b i v).1 14 0 = g.1 14 0 := by
      refine ic_no hne ?_
      rfl
    have h_isFaulty : (ic_up g b i v).1 14 1 = g.1 14 1 := by
      refine ic_no hne ?_
      rfl
    simp only [ic_cel, h_next, h_isFaulty]
  | 12, hb, hne =>
    rfl
  | 13, hb, hne =>
    have h1 : s < 4 := hb.2.1
    have h2 : t < 1 := hb.2.2
    have e2 : t = 0 := by omega
    subst e2
    have h_bits : (ic_up g b i v).1 (15 + s) 0 = g.1 (15 + s) 0 := by
      refine ic_no hne ?_
      rcases (show s = 0 ∨ s = 1 ∨ s = 2 ∨ s = 3 by omega) with rfl | rfl | rfl | rfl <;> rfl
    have h_size : (ic_up g b i v).1 (15 + s) 1 = g.1 (15 + s) 1 := by
      refine ic_no hne ?_
      rcases (show s = 0 ∨ s = 1 ∨ s = 2 ∨ s = 3 by omega) with rfl | rfl | rfl | rfl <;> rfl
    simp only [ic_cel, h_bits, h_size]
  | 14, hb, hne =>
    have h1 : s < 4 := hb.2.1
    have h2 : t < 1 := hb.2.2
    have e2 : t = 0 := by omega
    subst e2
    have h : ∀ j, (ic_up g b i v).1 (19 + s) (0 + j) = g.1 (19 + s) (0 + j) := by
      intro j
      refine ic_no hne ?_
      rcases (show s = 0 ∨ s = 1 ∨ s = 2 ∨ s = 3 by omega) with rfl | rfl | rfl | rfl <;> rfl
    simp only [ic_cel, h]
  | 15, hb, hne =>
    have h1 : s < 1 := hb.2.1
    have h2 : t < 1 := hb.2.2
    have e2 : t = 0 := by omega
    subst e2
    have e1 : s = 0 := by omega
    subst e1
    have h : ∀ j, (ic_up g b i v).1 23 (0 + j) = g.1 23 (0 + j) := by
      intro j
      refine ic_no hne ?_
      rfl
    simp only [ic_cel, h]
  | 16, hb, hne =>
    have h1 : s < 1 := hb.2.1
    have h2 : t < 1 := hb.2.2
    have e2 : t = 0 := by omega
    subst e2
    have e1 : s = 0 := by omega
    subst e1
    have h_isKept : (ic_up g b i v).1 24 0 = g.1 24 0 := by
      refine ic_no hne ?_
      rfl
    have h_taped : (ic_up g b i v).1 24 1 = g.1 24 1 := by
      refine ic_no hne ?_
      rfl
    have h_at : (ic_up g b i v).1 24 2 = g.1 24 2 := by
      refine ic_no hne ?_
      rfl
    have h_sort : (ic_up g b i v).1 24 3 = g.1 24 3 := by
      refine ic_no hne ?_
      rfl
    have h_from : (ic_up g b i v).1 24 4 = g.1 24 4 := by
      refine ic_no hne ?_
      rfl
    have h_fault : (ic_up g b i v).1 24 5 = g.1 24 5 := by
      refine ic_no hne ?_
      rfl
    have hv : (ic_up g b i v).2 = g.2 := rfl
    simp only [ic_cel, h_isKept, h_taped, h_at, h_sort, h_from, h_fault]
    rfl
  | 17, hb, hne =>
    have h1 : s < 4 := hb.2.1
    have h2 : t < 1 := hb.2.2
    have e2 : t = 0 := by omega
    subst e2
    have h : ∀ j, (ic_up g b i v).1 (3 + s) (0 + j) = g.1 (3 + s) (0 + j) := by
      intro j
      refine ic_no hne ?_
      rcases (show s = 0 ∨ s = 1 ∨ s = 2 ∨ s = 3 by omega) with rfl | rfl | rfl | rfl <;> rfl
    simp only [ic_cel, h]
  | 18, hb, hne =>
    have h1 : s < 1 := hb.2.1
    have h2 : t < 1 := hb.2.2
    have e2 : t = 0 := by omega
    subst e2
    have e1 : s = 0 := by omega
    subst e1
    have h : ∀ j, (ic_up g b i v).1 25 (0 + j) = g.1 25 (0 + j) := by
      intro j
      refine ic_no hne ?_
      rfl
    simp only [ic_cel, h]
  | 19, hb, hne =>
    have h1 : s < 1 := hb.2.1
    have h2 : t < 1 := hb.2.2
    have e2 : t = 0 := by omega
    subst e2
    have e1 : s = 0 := by omega
    subst e1
    have h : ∀ j, (ic_up g b i v).1 26 (0 + j) = g.1 26 (0 + j) := by
      intro j
      refine ic_no hne ?_
      rfl
    simp only [ic_cel, h]
  | 20, hb, hne =>
    have h1 : s < 1 := hb.2.1
    have h2 : t < 1 := hb.2.2
    have e2 : t = 0 := by omega
    subst e2
    have e1 : s = 0 := by omega
    subst e1
    have h : ∀ j, (ic_up g b i v).1 27 (0 + j) = g.1 27 (0 + j) := by
      intro j
      refine ic_no hne ?_
      rfl
    simp only [ic_cel, h]
  | 21, hb, hne =>
    have h1 : s < 1 := hb.2.1
    have h2 : t < 1 := hb.2.2
    have e2 : t = 0 := by omega
    subst e2
    have e1 : s = 0 := by omega
    subst e1
    have h : ∀ j, (ic_up g b i v).1 28 (0 + j) = g.1 28 (0 + j) := by
      intro j
      refine ic_no hne ?_
      rfl
    simp only [ic_cel, h]
  | 22, hb, hne =>
    have h1 : s < 1 := hb.2.1
    have h2 : t < 1 := hb.2.2
    have e2 : t = 0 := by omega
    subst e2
    have e1 : s = 0 := by omega
    subst e1
    have h : ∀ j, (ic_up g b i v).1 29 (0 + j) = g.1 29 (0 + j) := by
      intro j
      refine ic_no hne ?_
      rfl
    simp only [ic_cel, h]
  | 23, hb, hne =>
    have h1 : s < 1 := hb.2.1
    have h2 : t < 1 := hb.2.2
    have e2 : t = 0 := by omega
    subst e2
    have e1 : s = 0 := by omega
    subst e1
    have h : ∀ j, (ic_up g b i v).1 30 (0 + j) = g.1 30 (0 + j) := by
      intro j
      refine ic_no hne ?_
      rfl
    simp only [ic_cel, h]
  | n + 24, hb, hne => exact absurd hb.1 (by show ¬ (n + 24 < 24); omega)
end
section
/-! THE FIXED WORLD: after the constructors no cell is made; every cell has a key, its contents are read off a store. A judgement ic_Ev: from a place of a method, with abstract locals, stack and store, the machine comes to a return with an answer and a store. -/
def ic_rv (κ : ic_X) (k : ic_K) : Value := if k.1 = 26 then va_rf κ.2.2.2 else .ref (κ.1 k.1 k.2.1 k.2.2)
def ic_cv (κ : ic_X) : ic_V → Value
  | .inl x => .int x
  | .inr (.inl x) => .long x
  | .inr (.inr none) => .null
  | .inr (.inr (some k)) => ic_rv κ k
def ic_cat : ic_V → Nat
  | .inr (.inl _) => 2
  | _ => 1
theorem ic_cvcat (κ : ic_X) (v : ic_V) : (ic_cv κ v).category = ic_cat v := by
  rcases v with x | x | _ | k
  · rfl
  · rfl
  · rfl
  · show (ic_rv κ k).category = 1
    unfold ic_rv
    split
    · cases κ.2.2.2 <;> rfl
    · rfl
theorem ic_cvnr (κ : ic_X) (o : Option ic_K) : ic_cv κ (.inr (.inr o)) = .null ∨ ∃ q, ic_cv κ (.inr (.inr o)) = .ref q := by
  rcases o with _ | k
  · exact Or.inl rfl
  · show ic_rv κ k = _ ∨ ∃ q, ic_rv κ k = _
    unfold ic_rv
    split
    · cases κ.2.2.2 with
      | none => exact Or.inl rfl
      | some q => exact Or.inr ⟨q, rfl⟩
    · exact Or.inr ⟨_, rfl⟩
abbrev ic_ad (κ : ic_X) (x : ic_K) : Nat := κ.1 x.1 x.2.1 x.2.2
theorem ic_cvk {κ : ic_X} {x : ic_K} (h : x.1 ≠ 26) : ic_cv κ (.inr (.inr (some x))) = .ref (ic_ad κ x) := by
  show ic_rv κ x = _
  unfold ic_rv
  rw [if_neg h]
theorem ic_k26 {x : ic_K} (h : x ∈ ic_keys) : x.1 ≠ 26 := fun e => by
  have := (ic_bnd x h).1
  omega
def ic_lv (κ : ic_X) (l : ic_L) : List (Nat × Value) := l.map fun q => (q.1, ic_cv κ q.2)
def ic_sv (κ : ic_X) (st : List ic_V) : List Value := st.map (ic_cv κ)
def ic_ws (κ : ic_X) (g : ic_S) : va_W := ic_keys.map fun x => (ic_ad κ x, ic_cel κ g x)
def ic_tys (κ : ic_X) : List (ClassId × FieldType) := [(κ.2.2.1 0, .int), (κ.2.2.1 1, .byte), (κ.2.2.1 2, .object "IronCall$Thing"), (κ.2.2.1 3, .object "IronCall$Sheet")]
/-- the words of nameOf: their entries in the file, their texts; their bytes -/
def ic_str : List (Nat × String) := [(73, "thing"), (75, "iron"), (77, "gold"), (79, "sword"), (81, "bed"), (83, "needle"), (85, "crown"), (87, "at"), (89, "heavy"), (91, "pulled"), (93, "held"), (95, "cart"), (97, "back"), (99, "pace"), (101, "loud"), (103, "")]
def ic_slen : List Nat := [5, 4, 4, 5, 3, 6, 5, 2, 5, 6, 4, 4, 4, 4, 4, 0]
def ic_sbyt : List (List Int32) := [[116, 104, 105, 110, 103], [105, 114, 111, 110], [103, 111, 108, 100], [115, 119, 111, 114, 100], [98, 101, 100], [110, 101, 101, 100, 108, 101], [99, 114, 111, 119, 110], [97, 116], [104, 101, 97, 118, 121], [112, 117, 108, 108, 101, 100], [104, 101, 108, 100], [99, 97, 114, 116], [98, 97, 99, 107], [112, 97, 99, 101], [108, 111, 117, 100], []]
/-- calls of a nest mate's private methods -/
def ic_nst : List (String × Nat × MethodName × String) := [("IronCall$Reader", 42, ⟨"IronCall", "isKind", "(I)Z"⟩, "IronCall"), ("IronCall$Reader", 76, ⟨"IronCall", "leastOf", "(I)I"⟩, "IronCall"), ("IronCall$Reader", 79, ⟨"IronCall", "mostOf", "(I)I"⟩, "IronCall")]
/-- what stands still: the classes, the String constants, two statics -/
def ic_F (κ : ic_X) (A : Nat → Prop) (s : State) : Prop :=
  va_K κ.2.1 ic_cls (ic_tys κ) s ∧ vk_S 16 ic_slen ic_sbyt (fun i => κ.1 24 i 0) (fun i => κ.1 25 i 0) A s s.heap ∧ (∀ (i : Nat) (q : Nat × String), ic_str[i]? = some q → vk_R "IronCall$Tokens" q.1 q.2 (κ.1 24 i 0) s) ∧
  va_Z "java/lang/String" "COMPACT_STRINGS" "Z" (.int 1) A s s.heap ∧ va_Z "jdk/internal/util/Preconditions" "SIOOBE_FORMATTER" "Ljava/util/function/BiFunction;" (va_rf κ.2.2.2) A s s.heap ∧ (∀ q ∈ ic_nst, va_Nw (.methodLinkNest q.1 q.2.1 q.2.2.1 q.2.2.2) s)
/-- the script: its ints stand in bank 40, its length in bank 41 -/
def ic_G (κ : ic_X) (A : Nat → Prop) (g : ic_S) (s : State) : Prop :=
  ∃ (L : Nat) (xs : Nat → Int32), va_X (κ.1 27 0 0) L xs s s.heap ∧ (∀ j, j < L → xs j = g.1 40 j) ∧ Int32.ofNat L = g.1 41 0 ∧ κ.1 27 0 0 < s.heap.size ∧ ¬ A (κ.1 27 0 0)
/-- the moving part -/
def ic_W (κ : ic_X) (A : Nat → Prop) (g : ic_S) (s : State) (H : Heap) (locs : List Loc) : Prop :=
  va_P κ.2.1 ic_cls (ic_ws κ g) H ∧ va_D A (ic_ws κ g) ∧ va_S A s.heap H locs ∧ ic_G κ A g s
def ic_at (M : ic_M) (a b : Nat) : Option (Nat × Instr × Nat × Nat) := (M.2.2.2.2.2.2.getD a [])[b]?
def ic_okd (M : ic_M) : Bool := M.2.2.2.2.2.2.all fun l => l.all fun e => decide (decode M.2.1 e.1 = .ok (e.2.1, e.2.2.1)) && decide (e.2.2.2 = e.1 + e.2.2.1)
theorem ic_okd_at {M : ic_M} (h : ic_okd M = true) {a b : Nat} {e : Nat × Instr × Nat × Nat} (he : ic_at M a b = some e) : decode M.2.1 e.1 = .ok (e.2.1, e.2.2.1) ∧ e.2.2.2 = e.1 + e.2.2.1 := by
  unfold ic_at at he
  have hm : e ∈ M.2.2.2.2.2.2.getD a [] := List.mem_of_getElem? he
  have hl : M.2.2.2.2.2.2.getD a [] ∈ M.2.2.2.2.2.2 := by
    rw [List.getD_eq_getElem?_getD] at hm ⊢
    cases hx : M.2.2.2.2.2.2[a]? with
    | none => rw [hx] at hm; exact absurd hm List.not_mem_nil
    | some l => exact List.mem_of_getElem? hx
  have h1 := List.all_eq_true.mp (List.all_eq_true.mp h _ hl) e hm
  simp only [Bool.and_eq_true, decide_eq_true_eq] at h1
  exact h1
/-- the base of a walk -/
def ic_B (κ : ic_X) (A : Nat → Prop) (M : ic_M) (p : Program) (R : Room) (s : State) (m : MethodId) (args : Array Value) (c : Code) : Prop :=
  p.tables.exec = Jvm.exec ∧ c.code = M.2.1 ∧ c.maxLocals = M.2.2.1 ∧ s.vm.findClass M.1.cls = some m.cls ∧ (∀ w ∈ lw_gd, w.before args s = true) ∧ M.2.2.2.2.1 ≤ R.frames ∧ M.2.2.2.2.2.1 ≤ R.locals ∧ ic_F κ A s ∧ (∀ x ∈ ic_keys, A (ic_ad κ x)) ∧ ic_okd M = true
def ic_Rt (M : ic_M) (pc : Nat) (r : Option ic_V) : Prop := match r with
  | none => decode M.2.1 pc = .ok (.return_, 1) ∧ M.2.2.2.1 = none
  | some (.inl v) => decode M.2.1 pc = .ok (.ireturn, 1) ∧ ∃ ty, M.2.2.2.1 = some ty ∧ narrow ty (.int v) = .int v
  | some (.inr (.inl _)) => decode M.2.1 pc = .ok (.lreturn, 1) ∧ M.2.2.2.1 = some .long
  | some (.inr (.inr _)) => decode M.2.1 pc = .ok (.areturn, 1) ∧ ∃ rt, M.2.2.2.1 = some rt ∧ ((∃ n, rt = .object n) ∨ ∃ t, rt = .array t)
def ic_Ev (M : ic_M) (pc : Nat) (lv : ic_L) (st : List ic_V) (g : ic_S) (r : Option ic_V) (g' : ic_S) : Prop :=
  ∀ (κ : ic_X) (A : Nat → Prop) (p : Program) (l : Launch) (e : Env) (R : Room) (s : State) (m : MethodId) (args : Array Value) (below : List Frame) (meth : Method) (c : Code) (cells slots : Nat) (Q : State → Prop),
    ic_B κ A M p R s m args c → (cells ≤ R.cells ∧ slots ≤ R.slots) →
    (∀ (H : Heap) (locs : List Loc) (pc1 : Nat) (ls : Array Slot), ic_Rt M pc1 r → ic_W κ A g' s H locs → W p l e R s m args below meth c H locs cells slots Q (F0 m pc1 ls (ic_sv κ r.toList))) →
    ∀ (H : Heap) (locs : List Loc) (ls : Array Slot), ic_W κ A g s H locs → lv_has ls M.2.2.1 (ic_lv κ lv) → W p l e R s m args below meth c H locs cells slots Q (F0 m pc ls (ic_sv κ st))
/-! locals -/
def ic_lk : ic_L → Nat → Option ic_V
  | [], _ => none
  | (j, v) :: l, i => bif j == i then some v else ic_lk l i
theorem ic_lk_mem : ∀ {l : ic_L} {i : Nat} {v : ic_V}, ic_lk l i = some v → (i, v) ∈ l
  | (j, u) :: l, i, v, h => by
    unfold ic_lk at h
    cases hj : j == i with
    | true =>
      rw [hj] at h
      have e : j = i := by simpa using hj
      cases h
      rw [e]
      exact List.mem_cons_self
    | false =>
      rw [hj] at h
      exact List.mem_cons_of_mem _ (ic_lk_mem h)
theorem ic_lkc {κ : ic_X} {ls : Array Slot} {n : Nat} {lv : ic_L} (hl : lv_has ls n (ic_lv κ lv)) {i : Nat} {v : ic_V} (h : ic_lk lv i = some v) : ls[i]? = some (.val (ic_cv κ v)) :=
  hl.2.2 (i, ic_cv κ v) (List.mem_map.mpr ⟨(i, v), ic_lk_mem h, rfl⟩)
/-- stays when v comes to i -/
def ic_kp (i : Nat) (w : Bool) (q : Nat × ic_V) : Bool := !(q.1 == i) && (!(w && q.1 == i + 1) && !(q.1 + 1 == i && ic_cat q.2 == 2))
/-- every listed local of the new list is the stored one, or stood before and stays -/
def ic_sto (lv : ic_L) (i : Nat) (v : ic_V) : ic_L → Prop
  | [] => True
  | q :: l => (q = (i, v) ∨ (ic_lk lv q.1 = some q.2 ∧ ic_kp i (ic_cat v == 2) q = true)) ∧ ic_sto lv i v l
theorem ic_sto_mem {lv : ic_L} {i : Nat} {v : ic_V} : ∀ {lv' : ic_L}, ic_sto lv i v lv' → ∀ q ∈ lv', q = (i, v) ∨ (q ∈ lv ∧ ic_kp i (ic_cat v == 2) q = true)
  | p :: l, h, q, hq => by
    rcases List.mem_cons.mp hq with rfl | hq
    · rcases h.1 with e | ⟨e, h2⟩
      · exact Or.inl e
      · exact Or.inr ⟨ic_lk_mem e, h2⟩
    · exact ic_sto_mem h.2 q hq
theorem ic_has_mono {ls : Array Slot} {n : Nat} {l l' : List (Nat × Value)} (h : lv_has ls n l) (hm : ∀ q ∈ l', q ∈ l) : lv_has ls n l' := ⟨h.1, h.2.1, fun q hq => h.2.2 q (hm q hq)⟩
theorem ic_sto1 {κ : ic_X} {lv lv' : ic_L} {i : Nat} {v : ic_V} (h : ic_sto lv i v lv') (hc : ic_cat v = 1) : ∀ q ∈ ic_lv κ lv', q ∈ (i, ic_cv κ v) :: (ic_lv κ lv).filter (fun q => !(q.1 == i) && !(q.1 + 1 == i && q.2.category == 2)) := by
  intro q hq
  obtain ⟨u, hu, rfl⟩ := List.mem_map.mp hq
  rcases ic_sto_mem h u hu with rfl | ⟨hm, hk⟩
  · exact List.mem_cons_self
  · refine List.mem_cons_of_mem _ (List.mem_filter.mpr ⟨List.mem_map.mpr ⟨u, hm, rfl⟩, ?_⟩)
    show (!(u.1 == i) && !(u.1 + 1 == i && (ic_cv κ u.2).category == 2)) = true
    rw [ic_cvcat]
    unfold ic_kp at hk
    simp only [Bool.and_eq_true] at hk ⊢
    exact ⟨hk.1, hk.2.2⟩
theorem ic_sto2 {κ : ic_X} {lv lv' : ic_L} {i : Nat} {v : ic_V} (h : ic_sto lv i v lv') (hc : ic_cat v = 2) : ∀ q ∈ ic_lv κ lv', q ∈ (i, ic_cv κ v) :: (ic_lv κ lv).filter (fun q => !(q.1 == i) && (!(q.1 == i + 1) && !(q.1 + 1 == i && q.2.category == 2))) := by
  intro q hq
  obtain ⟨u, hu, rfl⟩ := List.mem_map.mp hq
  rcases ic_sto_mem h u hu with rfl | ⟨hm, hk⟩
  · exact List.mem_cons_self
  · refine List.mem_cons_of_mem _ (List.mem_filter.mpr ⟨List.mem_map.mpr ⟨u, hm, rfl⟩, ?_⟩)
    show (!(u.1 == i) && (!(u.1 == i + 1) && !(u.1 + 1 == i && (ic_cv κ u.2).category == 2))) = true
    rw [ic_cvcat]
    unfold ic_kp at hk
    rw [hc] at hk
    simpa using hk
/-- fewer locals -/
def ic_fw (lv : ic_L) : ic_L → Prop
  | [] => True
  | q :: l => ic_lk lv q.1 = some q.2 ∧ ic_fw lv l
theorem ic_fw_mem {lv : ic_L} : ∀ {lv' : ic_L}, ic_fw lv lv' → ∀ q ∈ lv', q ∈ lv
  | p :: l, h, q, hq => by
    rcases List.mem_cons.mp hq with rfl | hq
    · exact ic_lk_mem h.1
    · exact ic_fw_mem h.2 q hq
section IC
variable {M : ic_M} {pc nx : Nat} {lv lv' : ic_L} {st : List ic_V} {g g1 g' : ic_S} {r : Option ic_V} {a b : Nat}
theorem ev_fw (h : ic_Ev M pc lv' st g r g') (hf : ic_fw lv lv') : ic_Ev M pc lv st g r g' := by
  intro κ A p l e R s m args below meth c cells slots Q B hc K H locs ls hW hl
  refine h κ A p l e R s m args below meth c cells slots Q B hc K H locs ls hW (ic_has_mono hl fun q hq => ?_)
  obtain ⟨u, hu, rfl⟩ := List.mem_map.mp hq
  exact List.mem_map.mpr ⟨u, ic_fw_mem hf u hu, rfl⟩
theorem ev_iadd {x y : Int32} (hd : ic_at M a b = some (pc, .iadd, 1, nx)) (h : ic_Ev M nx lv (ic_I (x + y) :: st) g r g') : ic_Ev M pc lv (ic_I y :: ic_I x :: st) g r g' := by
  intro κ A p l e R s m args below meth c cells slots Q B hc K H locs ls hW hl
  obtain ⟨hx, hb, hml, hown, hts, hfr, hlo, hF, hA, hok⟩ := id B
  obtain ⟨hd1, hd2⟩ := ic_okd_at hok hd
  dsimp only at hd1 hd2
  subst hd2
  exact lv_iadd hx hb hd1 (h κ A p l e R s m args below meth c cells slots Q B hc K H locs ls hW hl)
theorem ev_isub {x y : Int32} (hd : ic_at M a b = some (pc, .isub, 1, nx)) (h : ic_Ev M nx lv (ic_I (x - y) :: st) g r g') : ic_Ev M pc lv (ic_I y :: ic_I x :: st) g r g' := by
  intro κ A p l e R s m args below meth c cells slots Q B hc K H locs ls hW hl
  obtain ⟨hx, hb, hml, hown, hts, hfr, hlo, hF, hA, hok⟩ := id B
  obtain ⟨hd1, hd2⟩ := ic_okd_at hok hd
  dsimp only at hd1 hd2
  subst hd2
  exact lv_isub hx hb hd1 (h κ A p l e R s m args below meth c cells slots Q B hc K H locs ls hW hl)
theorem ev_imul {x y : Int32} (hd : ic_at M a b = some (pc, .imul, 1, nx)) (h : ic_Ev M nx lv (ic_I (x * y) :: st) g r g') : ic_Ev M pc lv (ic_I y :: ic_I x :: st) g r g' := by
  intro κ A p l e R s m args below meth c cells slots Q B hc K H locs ls hW hl
  obtain ⟨hx, hb, hml, hown, hts, hfr, hlo, hF, hA, hok⟩ := id B
  obtain ⟨hd1, hd2⟩ := ic_okd_at hok hd
  dsimp only at hd1 hd2
  subst hd2
  exact lv_imul hx hb hd1 (h κ A p l e R s m args below meth c cells slots Q B hc K H locs ls hW hl)
theorem ev_iand {x y : Int32} (hd : ic_at M a b = some (pc, .iand, 1, nx)) (h : ic_Ev M nx lv (ic_I (x &&& y) :: st) g r g') : ic_Ev M pc lv (ic_I y :: ic_I x :: st) g r g' := by
  intro κ A p l e R s m args below meth c cells slots Q B hc K H locs ls hW hl
  obtain ⟨hx, hb, hml, hown, hts, hfr, hlo, hF, hA, hok⟩ := id B
  obtain ⟨hd1, hd2⟩ := ic_okd_at hok hd
  dsimp only at hd1 hd2
  subst hd2
  exact lv_iand hx hb hd1 (h κ A p l e R s m args below meth c cells slots Q B hc K H locs ls hW hl)
theorem ev_ior {x y : Int32} (hd : ic_at M a b = some (pc, .ior, 1, nx)) (h : ic_Ev M nx lv (ic_I (x ||| y) :: st) g r g') : ic_Ev M pc lv (ic_I y :: ic_I x :: st) g r g' := by
  intro κ A p l e R s m args below meth c cells slots Q B hc K H locs ls hW hl
  obtain ⟨hx, hb, hml, hown, hts, hfr, hlo, hF, hA, hok⟩ := id B
  obtain ⟨hd1, hd2⟩ := ic_okd_at hok hd
  dsimp only at hd1 hd2
  subst hd2
  exact lv_ior hx hb hd1 (h κ A p l e R s m args below meth c cells slots Q B hc K H locs ls hW hl)
theorem ev_ixor {x y : Int32} (hd : ic_at M a b = some (pc, .ixor, 1, nx)) (h : ic_Ev M nx lv (ic_I (x ^^^ y) :: st) g r g') : ic_Ev M pc lv (ic_I y :: ic_I x :: st) g r g' := by
  intro κ A p l e R s m args below meth c cells slots Q B hc K H locs ls hW hl
  obtain ⟨hx, hb, hml, hown, hts, hfr, hlo, hF, hA, hok⟩ := id B
  obtain ⟨hd1, hd2⟩ := ic_okd_at hok hd
  dsimp only at hd1 hd2
  subst hd2
  exact lv_ixor hx hb hd1 (h κ A p l e R s m args below meth c cells slots Q B hc K H locs ls hW hl)
theorem ev_ladd {x y : Int64} (hd : ic_at M a b = some (pc, .ladd, 1, nx)) (h : ic_Ev M nx lv (ic_J (x + y) :: st) g r g') : ic_Ev M pc lv (ic_J y :: ic_J x :: st) g r g' := by
  intro κ A p l e R s m args below meth c cells slots Q B hc K H locs ls hW hl
  obtain ⟨hx, hb, hml, hown, hts, hfr, hlo, hF, hA, hok⟩ := id B
  obtain ⟨hd1, hd2⟩ := ic_okd_at hok hd
  dsimp only at hd1 hd2
  subst hd2
  exact lv_ladd hx hb hd1 (h κ A p l e R s m args below meth c cells slots Q B hc K H locs ls hW hl)
theorem ev_lsub {x y : Int64} (hd : ic_at M a b = some (pc, .lsub, 1, nx)) (h : ic_Ev M nx lv (ic_J (x - y) :: st) g r g') : ic_Ev M pc lv (ic_J y :: ic_J x :: st) g r g' := by
  intro κ A p l e R s m args below meth c cells slots Q B hc K H locs ls hW hl
  obtain ⟨hx, hb, hml, hown, hts, hfr, hlo, hF, hA, hok⟩ := id B
  obtain ⟨hd1, hd2⟩ := ic_okd_at hok hd
  dsimp only at hd1 hd2
  subst hd2
  exact lv_lsub hx hb hd1 (h κ A p l e R s m args below meth c cells slots Q B hc K H locs ls hW hl)
theorem ev_lmul {x y : Int64} (hd : ic_at M a b = some (pc, .lmul, 1, nx)) (h : ic_Ev M nx lv (ic_J (x * y) :: st) g r g') : ic_Ev M pc lv (ic_J y :: ic_J x :: st) g r g' := by
  intro κ A p l e R s m args below meth c cells slots Q B hc K H locs ls hW hl
  obtain ⟨hx, hb, hml, hown, hts, hfr, hlo, hF, hA, hok⟩ := id B
  obtain ⟨hd1, hd2⟩ := ic_okd_at hok hd
  dsimp only at hd1 hd2
  subst hd2
  exact lv_lmul hx hb hd1 (h κ A p l e R s m args below meth c cells slots Q B hc K H locs ls hW hl)
theorem ev_lcmp {x y : Int64} (hd : ic_at M a b = some (pc, .lcmp, 1, nx)) (h : ic_Ev M nx lv (ic_I (lg_cmp x y) :: st) g r g') : ic_Ev M pc lv (ic_J y :: ic_J x :: st) g r g' := by
  intro κ A p l e R s m args below meth c cells slots Q B hc K H locs ls hW hl
  obtain ⟨hx, hb, hml, hown, hts, hfr, hlo, hF, hA, hok⟩ := id B
  obtain ⟨hd1, hd2⟩ := ic_okd_at hok hd
  dsimp only at hd1 hd2
  subst hd2
  exact W.lcmp hx hb hd1 (h κ A p l e R s m args below meth c cells slots Q B hc K H locs ls hW hl)
theorem ev_idiv {x y : Int32} (hd : ic_at M a b = some (pc, .idiv, 1, nx)) (hne : ¬ y = 0) (h : ic_Ev M nx lv (ic_I (x / y) :: st) g r g') : ic_Ev M pc lv (ic_I y :: ic_I x :: st) g r g' := by
  intro κ A p l e R s m args below meth c cells slots Q B hc K H locs ls hW hl
  obtain ⟨hx, hb, hml, hown, hts, hfr, hlo, hF, hA, hok⟩ := id B
  obtain ⟨hd1, hd2⟩ := ic_okd_at hok hd
  dsimp only at hd1 hd2
  subst hd2
  exact lv_idiv hx hb hd1 hne (h κ A p l e R s m args below meth c cells slots Q B hc K H locs ls hW hl)
theorem ev_irem {x y : Int32} (hd : ic_at M a b = some (pc, .irem, 1, nx)) (hne : ¬ y = 0) (h : ic_Ev M nx lv (ic_I (x - x / y * y) :: st) g r g') : ic_Ev M pc lv (ic_I y :: ic_I x :: st) g r g' := by
  intro κ A p l e R s m args below meth c cells slots Q B hc K H locs ls hW hl
  obtain ⟨hx, hb, hml, hown, hts, hfr, hlo, hF, hA, hok⟩ := id B
  obtain ⟨hd1, hd2⟩ := ic_okd_at hok hd
  dsimp only at hd1 hd2
  subst hd2
  exact lv_irem hx hb hd1 hne (h κ A p l e R s m args below meth c cells slots Q B hc K H locs ls hW hl)
theorem ev_ineg {x : Int32} (hd : ic_at M a b = some (pc, .ineg, 1, nx)) (h : ic_Ev M nx lv (ic_I (-x) :: st) g r g') : ic_Ev M pc lv (ic_I x :: st) g r g' := by
  intro κ A p l e R s m args below meth c cells slots Q B hc K H locs ls hW hl
  obtain ⟨hx, hb, hml, hown, hts, hfr, hlo, hF, hA, hok⟩ := id B
  obtain ⟨hd1, hd2⟩ := ic_okd_at hok hd
  dsimp only at hd1 hd2
  subst hd2
  exact lv_ineg hx hb hd1 (h κ A p l e R s m args below meth c cells slots Q B hc K H locs ls hW hl)
theorem ev_ishl {x y : Int32} (hd : ic_at M a b = some (pc, .ishl, 1, nx)) (h : ic_Ev M nx lv (ic_I (x <<< (y &&& 31)) :: st) g r g') : ic_Ev M pc lv (ic_I y :: ic_I x :: st) g r g' := by
  intro κ A p l e R s m args below meth c cells slots Q B hc K H locs ls hW hl
  obtain ⟨hx, hb, hml, hown, hts, hfr, hlo, hF, hA, hok⟩ := id B
  obtain ⟨hd1, hd2⟩ := ic_okd_at hok hd
  dsimp only at hd1 hd2
  subst hd2
  exact lv_ishl hx hb hd1 (h κ A p l e R s m args below meth c cells slots Q B hc K H locs ls hW hl)
theorem ev_ishr {x y : Int32} (hd : ic_at M a b = some (pc, .ishr, 1, nx)) (h : ic_Ev M nx lv (ic_I (x >>> (y &&& 31)) :: st) g r g') : ic_Ev M pc lv (ic_I y :: ic_I x :: st) g r g' := by
  intro κ A p l e R s m args below meth c cells slots Q B hc K H locs ls hW hl
  obtain ⟨hx, hb, hml, hown, hts, hfr, hlo, hF, hA, hok⟩ := id B
  obtain ⟨hd1, hd2⟩ := ic_okd_at hok hd
  dsimp only at hd1 hd2
  subst hd2
  exact lv_ishr hx hb hd1 (h κ A p l e R s m args below meth c cells slots Q B hc K H locs ls hW hl)
theorem ev_iushr {x y : Int32} (hd : ic_at M a b = some (pc, .iushr, 1, nx)) (h : ic_Ev M nx lv (ic_I (x.toUInt32 >>> (y.toUInt32 &&& Int32.toUInt32 31)).toInt32 :: st) g r g') : ic_Ev M pc lv (ic_I y :: ic_I x :: st) g r g' := by
  intro κ A p l e R s m args below meth c cells slots Q B hc K H locs ls hW hl
  obtain ⟨hx, hb, hml, hown, hts, hfr, hlo, hF, hA, hok⟩ := id B
  obtain ⟨hd1, hd2⟩ := ic_okd_at hok hd
  dsimp only at hd1 hd2
  subst hd2
  exact lv_iushr hx hb hd1 rfl (h κ A p l e R s m args below meth c cells slots Q B hc K H locs ls hW hl)
theorem ev_i2l {x : Int32} (hd : ic_at M a b = some (pc, .i2l, 1, nx)) (h : ic_Ev M nx lv (ic_J x.toInt64 :: st) g r g') : ic_Ev M pc lv (ic_I x :: st) g r g' := by
  intro κ A p l e R s m args below meth c cells slots Q B hc K H locs ls hW hl
  obtain ⟨hx, hb, hml, hown, hts, hfr, hlo, hF, hA, hok⟩ := id B
  obtain ⟨hd1, hd2⟩ := ic_okd_at hok hd
  dsimp only at hd1 hd2
  subst hd2
  exact lv_i2l hx hb hd1 rfl (h κ A p l e R s m args below meth c cells slots Q B hc K H locs ls hW hl)
theorem ev_l2i {x : Int64} (hd : ic_at M a b = some (pc, .l2i, 1, nx)) (h : ic_Ev M nx lv (ic_I x.toInt32 :: st) g r g') : ic_Ev M pc lv (ic_J x :: st) g r g' := by
  intro κ A p l e R s m args below meth c cells slots Q B hc K H locs ls hW hl
  obtain ⟨hx, hb, hml, hown, hts, hfr, hlo, hF, hA, hok⟩ := id B
  obtain ⟨hd1, hd2⟩ := ic_okd_at hok hd
  dsimp only at hd1 hd2
  subst hd2
  exact lv_l2i hx hb hd1 rfl (h κ A p l e R s m args below meth c cells slots Q B hc K H locs ls hW hl)
theorem ev_i2b {x : Int32} (hd : ic_at M a b = some (pc, .i2b, 1, nx)) (h : ic_Ev M nx lv (ic_I x.toInt8.toInt32 :: st) g r g') : ic_Ev M pc lv (ic_I x :: st) g r g' := by
  intro κ A p l e R s m args below meth c cells slots Q B hc K H locs ls hW hl
  obtain ⟨hx, hb, hml, hown, hts, hfr, hlo, hF, hA, hok⟩ := id B
  obtain ⟨hd1, hd2⟩ := ic_okd_at hok hd
  dsimp only at hd1 hd2
  subst hd2
  exact lv_i2b hx hb hd1 rfl (h κ A p l e R s m args below meth c cells slots Q B hc K H locs ls hW hl)
theorem ev_i2s {x : Int32} (hd : ic_at M a b = some (pc, .i2s, 1, nx)) (h : ic_Ev M nx lv (ic_I x.toInt16.toInt32 :: st) g r g') : ic_Ev M pc lv (ic_I x :: st) g r g' := by
  intro κ A p l e R s m args below meth c cells slots Q B hc K H locs ls hW hl
  obtain ⟨hx, hb, hml, hown, hts, hfr, hlo, hF, hA, hok⟩ := id B
  obtain ⟨hd1, hd2⟩ := ic_okd_at hok hd
  dsimp only at hd1 hd2
  subst hd2
  exact lv_i2s hx hb hd1 rfl (h κ A p l e R s m args below meth c cells slots Q B hc K H locs ls hW hl)
theorem ev_i2c {x : Int32} (hd : ic_at M a b = some (pc, .i2c, 1, nx)) (h : ic_Ev M nx lv (ic_I (x.toUInt32 % 65536).toInt32 :: st) g r g') : ic_Ev M pc lv (ic_I x :: st) g r g' := by
  intro κ A p l e R s m args below meth c cells slots Q B hc K H locs ls hW hl
  obtain ⟨hx, hb, hml, hown, hts, hfr, hlo, hF, hA, hok⟩ := id B
  obtain ⟨hd1, hd2⟩ := ic_okd_at hok hd
  dsimp only at hd1 hd2
  subst hd2
  exact lv_i2c hx hb hd1 rfl (h κ A p l e R s m args below meth c cells slots Q B hc K H locs ls hW hl)
theorem ev_iconst {n : Int} (v : Int32) (hd : ic_at M a b = some (pc, .iconst n, 1, nx)) (hv : Int32.ofInt n = v) (h : ic_Ev M nx lv (ic_I v :: st) g r g') : ic_Ev M pc lv (st) g r g' := by
  intro κ A p l e R s m args below meth c cells slots Q B hc K H locs ls hW hl
  obtain ⟨hx, hb, hml, hown, hts, hfr, hlo, hF, hA, hok⟩ := id B
  obtain ⟨hd1, hd2⟩ := ic_okd_at hok hd
  dsimp only at hd1 hd2
  subst hd2
  exact lv_iconst hx hb hd1 hv (h κ A p l e R s m args below meth c cells slots Q B hc K H locs ls hW hl)
theorem ev_bipush {n : Int} (v : Int32) (hd : ic_at M a b = some (pc, .bipush n, 2, nx)) (hv : (Int8.ofInt n).toInt32 = v) (h : ic_Ev M nx lv (ic_I v :: st) g r g') : ic_Ev M pc lv (st) g r g' := by
  intro κ A p l e R s m args below meth c cells slots Q B hc K H locs ls hW hl
  obtain ⟨hx, hb, hml, hown, hts, hfr, hlo, hF, hA, hok⟩ := id B
  obtain ⟨hd1, hd2⟩ := ic_okd_at hok hd
  dsimp only at hd1 hd2
  subst hd2
  exact lv_bipush hx hb hd1 hv (h κ A p l e R s m args below meth c cells slots Q B hc K H locs ls hW hl)
theorem ev_sipush {n : Int} (v : Int32) (hd : ic_at M a b = some (pc, .sipush n, 3, nx)) (hv : (Int16.ofInt n).toInt32 = v) (h : ic_Ev M nx lv (ic_I v :: st) g r g') : ic_Ev M pc lv (st) g r g' := by
  intro κ A p l e R s m args below meth c cells slots Q B hc K H locs ls hW hl
  obtain ⟨hx, hb, hml, hown, hts, hfr, hlo, hF, hA, hok⟩ := id B
  obtain ⟨hd1, hd2⟩ := ic_okd_at hok hd
  dsimp only at hd1 hd2
  subst hd2
  exact lv_sipush hx hb hd1 hv (h κ A p l e R s m args below meth c cells slots Q B hc K H locs ls hW hl)
theorem ev_lconst {n : Fin 2} (v : Int64) (hd : ic_at M a b = some (pc, .lconst n, 1, nx)) (hv : Int64.ofNat (n : Nat) = v) (h : ic_Ev M nx lv (ic_J v :: st) g r g') : ic_Ev M pc lv (st) g r g' := by
  intro κ A p l e R s m args below meth c cells slots Q B hc K H locs ls hW hl
  obtain ⟨hx, hb, hml, hown, hts, hfr, hlo, hF, hA, hok⟩ := id B
  obtain ⟨hd1, hd2⟩ := ic_okd_at hok hd
  dsimp only at hd1 hd2
  subst hd2
  exact lv_lconst hx hb hd1 hv (h κ A p l e R s m args below meth c cells slots Q B hc K H locs ls hW hl)
theorem ev_null  (hd : ic_at M a b = some (pc, .aconst_null, 1, nx)) (h : ic_Ev M nx lv (ic_N :: st) g r g') : ic_Ev M pc lv (st) g r g' := by
  intro κ A p l e R s m args below meth c cells slots Q B hc K H locs ls hW hl
  obtain ⟨hx, hb, hml, hown, hts, hfr, hlo, hF, hA, hok⟩ := id B
  obtain ⟨hd1, hd2⟩ := ic_okd_at hok hd
  dsimp only at hd1 hd2
  subst hd2
  exact lv_null hx hb hd1 (h κ A p l e R s m args below meth c cells slots Q B hc K H locs ls hW hl)
theorem ev_ldc {i : Nat} (v : Int32) (hd : ic_at M a b = some (pc, .ldc i, 2, nx)) (hc0 : Cond.constant M.1.cls i v ∈ lw_gd) (h : ic_Ev M nx lv (ic_I v :: st) g r g') : ic_Ev M pc lv (st) g r g' := by
  intro κ A p l e R s m args below meth c cells slots Q B hc K H locs ls hW hl
  obtain ⟨hx, hb, hml, hown, hts, hfr, hlo, hF, hA, hok⟩ := id B
  obtain ⟨hd1, hd2⟩ := ic_okd_at hok hd
  dsimp only at hd1 hd2
  subst hd2
  exact lv_ldc hx hb hown (hts _ hc0) hd1 (h κ A p l e R s m args below meth c cells slots Q B hc K H locs ls hW hl)
theorem ev_ldc2 {i : Nat} (v : Int64) (hd : ic_at M a b = some (pc, .ldc2_w i, 3, nx)) (hc0 : Cond.constantLong M.1.cls i v ∈ lw_gd) (h : ic_Ev M nx lv (ic_J v :: st) g r g') : ic_Ev M pc lv (st) g r g' := by
  intro κ A p l e R s m args below meth c cells slots Q B hc K H locs ls hW hl
  obtain ⟨hx, hb, hml, hown, hts, hfr, hlo, hF, hA, hok⟩ := id B
  obtain ⟨hd1, hd2⟩ := ic_okd_at hok hd
  dsimp only at hd1 hd2
  subst hd2
  exact lv_ldc2 hx hb hown (hts _ hc0) hd1 (h κ A p l e R s m args below meth c cells slots Q B hc K H locs ls hW hl)
theorem ev_iload {i : Nat} {x : Int32} (hd : ic_at M a b = some (pc, .iload i, 2, nx)) (hi : ic_lk lv i = some (ic_I x)) (h : ic_Ev M nx lv (ic_I x :: st) g r g') : ic_Ev M pc lv (st) g r g' := by
  intro κ A p l e R s m args below meth c cells slots Q B hc K H locs ls hW hl
  obtain ⟨hx, hb, hml, hown, hts, hfr, hlo, hF, hA, hok⟩ := id B
  obtain ⟨hd1, hd2⟩ := ic_okd_at hok hd
  dsimp only at hd1 hd2
  subst hd2
  exact lv_iload hx hb hd1 (ic_lkc hl hi) (h κ A p l e R s m args below meth c cells slots Q B hc K H locs ls hW hl)
theorem ev_iload_n {i : Fin 4} {x : Int32} (hd : ic_at M a b = some (pc, .iload_n i, 1, nx)) (hi : ic_lk lv (i : Nat) = some (ic_I x)) (h : ic_Ev M nx lv (ic_I x :: st) g r g') : ic_Ev M pc lv (st) g r g' := by
  intro κ A p l e R s m args below meth c cells slots Q B hc K H locs ls hW hl
  obtain ⟨hx, hb, hml, hown, hts, hfr, hlo, hF, hA, hok⟩ := id B
  obtain ⟨hd1, hd2⟩ := ic_okd_at hok hd
  dsimp only at hd1 hd2
  subst hd2
  exact lv_iload_n hx hb hd1 rfl (ic_lkc hl hi) (h κ A p l e R s m args below meth c cells slots Q B hc K H locs ls hW hl)
theorem ev_lload {i : Nat} {x : Int64} (hd : ic_at M a b = some (pc, .lload i, 2, nx)) (hi : ic_lk lv i = some (ic_J x)) (h : ic_Ev M nx lv (ic_J x :: st) g r g') : ic_Ev M pc lv (st) g r g' := by
  intro κ A p l e R s m args below meth c cells slots Q B hc K H locs ls hW hl
  obtain ⟨hx, hb, hml, hown, hts, hfr, hlo, hF, hA, hok⟩ := id B
  obtain ⟨hd1, hd2⟩ := ic_okd_at hok hd
  dsimp only at hd1 hd2
  subst hd2
  exact lv_lload hx hb hd1 (ic_lkc hl hi) (h κ A p l e R s m args below meth c cells slots Q B hc K H locs ls hW hl)
theorem ev_lload_n {i : Fin 4} {x : Int64} (hd : ic_at M a b = some (pc, .lload_n i, 1, nx)) (hi : ic_lk lv (i : Nat) = some (ic_J x)) (h : ic_Ev M nx lv (ic_J x :: st) g r g') : ic_Ev M pc lv (st) g r g' := by
  intro κ A p l e R s m args below meth c cells slots Q B hc K H locs ls hW hl
  obtain ⟨hx, hb, hml, hown, hts, hfr, hlo, hF, hA, hok⟩ := id B
  obtain ⟨hd1, hd2⟩ := ic_okd_at hok hd
  dsimp only at hd1 hd2
  subst hd2
  exact lv_lload_n hx hb hd1 rfl (ic_lkc hl hi) (h κ A p l e R s m args below meth c cells slots Q B hc K H locs ls hW hl)
theorem ev_aload {i : Nat} {o : Option ic_K} (hd : ic_at M a b = some (pc, .aload i, 2, nx)) (hi : ic_lk lv i = some (.inr (.inr o))) (h : ic_Ev M nx lv (.inr (.inr o) :: st) g r g') : ic_Ev M pc lv st g r g' := by
  intro κ A p l e R s m args below meth c cells slots Q B hc K H locs ls hW hl
  obtain ⟨hx, hb, hml, hown, hts, hfr, hlo, hF, hA, hok⟩ := id B
  obtain ⟨hd1, hd2⟩ := ic_okd_at hok hd
  dsimp only at hd1 hd2
  subst hd2
  have h2 := ic_lkc hl hi
  have h3 := h κ A p l e R s m args below meth c cells slots Q B hc K H locs ls hW hl
  have e3 : ic_sv κ ((.inr (.inr o) : ic_V) :: st) = ic_cv κ (.inr (.inr o)) :: ic_sv κ st := rfl
  rw [e3] at h3
  rcases ic_cvnr κ o with e | ⟨q, e⟩
  · rw [e] at h2 h3
    exact lv_aloadN hx hb hd1 h2 h3
  · rw [e] at h2 h3
    exact lv_aload hx hb hd1 h2 h3
theorem ev_aload_n {i : Fin 4} {o : Option ic_K} (hd : ic_at M a b = some (pc, .aload_n i, 1, nx)) (hi : ic_lk lv (i : Nat) = some (.inr (.inr o))) (h : ic_Ev M nx lv (.inr (.inr o) :: st) g r g') : ic_Ev M pc lv st g r g' := by
  intro κ A p l e R s m args below meth c cells slots Q B hc K H locs ls hW hl
  obtain ⟨hx, hb, hml, hown, hts, hfr, hlo, hF, hA, hok⟩ := id B
  obtain ⟨hd1, hd2⟩ := ic_okd_at hok hd
  dsimp only at hd1 hd2
  subst hd2
  have h2 := ic_lkc hl hi
  have h3 := h κ A p l e R s m args below meth c cells slots Q B hc K H locs ls hW hl
  have e3 : ic_sv κ ((.inr (.inr o) : ic_V) :: st) = ic_cv κ (.inr (.inr o)) :: ic_sv κ st := rfl
  rw [e3] at h3
  rcases ic_cvnr κ o with e | ⟨q, e⟩
  · rw [e] at h2 h3
    exact lv_aload_nN hx hb hd1 rfl h2 h3
  · rw [e] at h2 h3
    exact lv_aload_n hx hb hd1 rfl h2 h3
theorem ev_istore {i : Nat} {x : Int32} (lv' : ic_L) (hd : ic_at M a b = some (pc, .istore i, 2, nx)) (hi : i < M.2.2.1) (hs : ic_sto lv i (ic_I x) lv') (h : ic_Ev M nx lv' st g r g') : ic_Ev M pc lv (ic_I x :: st) g r g' := by
  intro κ A p l e R s m args below meth c cells slots Q B hc K H locs ls hW hl
  obtain ⟨hx, hb, hml, hown, hts, hfr, hlo, hF, hA, hok⟩ := id B
  obtain ⟨hd1, hd2⟩ := ic_okd_at hok hd
  dsimp only at hd1 hd2
  subst hd2
  exact lv_istore hx hb hd1 hl hi rfl fun ls hl => h κ A p l e R s m args below meth c cells slots Q B hc K H locs ls hW (ic_has_mono hl (ic_sto1 hs rfl))
theorem ev_istore_n {i : Fin 4} {x : Int32} (lv' : ic_L) (hd : ic_at M a b = some (pc, .istore_n i, 1, nx)) (hi : (i : Nat) < M.2.2.1) (hs : ic_sto lv (i : Nat) (ic_I x) lv') (h : ic_Ev M nx lv' st g r g') : ic_Ev M pc lv (ic_I x :: st) g r g' := by
  intro κ A p l e R s m args below meth c cells slots Q B hc K H locs ls hW hl
  obtain ⟨hx, hb, hml, hown, hts, hfr, hlo, hF, hA, hok⟩ := id B
  obtain ⟨hd1, hd2⟩ := ic_okd_at hok hd
  dsimp only at hd1 hd2
  subst hd2
  exact lv_istore_n hx hb hd1 rfl hl hi rfl fun ls hl => h κ A p l e R s m args below meth c cells slots Q B hc K H locs ls hW (ic_has_mono hl (ic_sto1 hs rfl))
theorem ev_lstore {i : Nat} {x : Int64} (lv' : ic_L) (hd : ic_at M a b = some (pc, .lstore i, 2, nx)) (hi : i + 1 < M.2.2.1) (hs : ic_sto lv i (ic_J x) lv') (h : ic_Ev M nx lv' st g r g') : ic_Ev M pc lv (ic_J x :: st) g r g' := by
  intro κ A p l e R s m args below meth c cells slots Q B hc K H locs ls hW hl
  obtain ⟨hx, hb, hml, hown, hts, hfr, hlo, hF, hA, hok⟩ := id B
  obtain ⟨hd1, hd2⟩ := ic_okd_at hok hd
  dsimp only at hd1 hd2
  subst hd2
  exact lv_lstore hx hb hd1 hl hi rfl fun ls hl => h κ A p l e R s m args below meth c cells slots Q B hc K H locs ls hW (ic_has_mono hl (ic_sto2 hs rfl))
theorem ev_lstore_n {i : Fin 4} {x : Int64} (lv' : ic_L) (hd : ic_at M a b = some (pc, .lstore_n i, 1, nx)) (hi : (i : Nat) + 1 < M.2.2.1) (hs : ic_sto lv (i : Nat) (ic_J x) lv') (h : ic_Ev M nx lv' st g r g') : ic_Ev M pc lv (ic_J x :: st) g r g' := by
  intro κ A p l e R s m args below meth c cells slots Q B hc K H locs ls hW hl
  obtain ⟨hx, hb, hml, hown, hts, hfr, hlo, hF, hA, hok⟩ := id B
  obtain ⟨hd1, hd2⟩ := ic_okd_at hok hd
  dsimp only at hd1 hd2
  subst hd2
  exact lv_lstore_n hx hb hd1 rfl hl hi rfl fun ls hl => h κ A p l e R s m args below meth c cells slots Q B hc K H locs ls hW (ic_has_mono hl (ic_sto2 hs rfl))
theorem ev_astore {i : Nat} {o : Option ic_K} (lv' : ic_L) (hd : ic_at M a b = some (pc, .astore i, 2, nx)) (hi : i < M.2.2.1) (hs : ic_sto lv i (.inr (.inr o)) lv') (h : ic_Ev M nx lv' st g r g') : ic_Ev M pc lv (.inr (.inr o) :: st) g r g' := by
  intro κ A p l e R s m args below meth c cells slots Q B hc K H locs ls hW hl
  obtain ⟨hx, hb, hml, hown, hts, hfr, hlo, hF, hA, hok⟩ := id B
  obtain ⟨hd1, hd2⟩ := ic_okd_at hok hd
  dsimp only at hd1 hd2
  subst hd2
  have e3 : ic_sv κ ((.inr (.inr o) : ic_V) :: st) = ic_cv κ (.inr (.inr o)) :: ic_sv κ st := rfl
  have hs2 := ic_sto1 (κ := κ) hs rfl
  rw [e3]
  rcases ic_cvnr κ o with e9 | ⟨q, e9⟩
  · rw [e9] at hs2 ⊢
    exact lv_astoreN hx hb hd1 hl hi rfl fun ls hl => h κ A p l e R s m args below meth c cells slots Q B hc K H locs ls hW (ic_has_mono hl hs2)
  · rw [e9] at hs2 ⊢
    exact lv_astore hx hb hd1 hl hi rfl fun ls hl => h κ A p l e R s m args below meth c cells slots Q B hc K H locs ls hW (ic_has_mono hl hs2)
theorem ev_astore_n {i : Fin 4} {o : Option ic_K} (lv' : ic_L) (hd : ic_at M a b = some (pc, .astore_n i, 1, nx)) (hi : (i : Nat) < M.2.2.1) (hs : ic_sto lv (i : Nat) (.inr (.inr o)) lv') (h : ic_Ev M nx lv' st g r g') : ic_Ev M pc lv (.inr (.inr o) :: st) g r g' := by
  intro κ A p l e R s m args below meth c cells slots Q B hc K H locs ls hW hl
  obtain ⟨hx, hb, hml, hown, hts, hfr, hlo, hF, hA, hok⟩ := id B
  obtain ⟨hd1, hd2⟩ := ic_okd_at hok hd
  dsimp only at hd1 hd2
  subst hd2
  have e3 : ic_sv κ ((.inr (.inr o) : ic_V) :: st) = ic_cv κ (.inr (.inr o)) :: ic_sv κ st := rfl
  have hs2 := ic_sto1 (κ := κ) hs rfl
  rw [e3]
  rcases ic_cvnr κ o with e9 | ⟨q, e9⟩
  · rw [e9] at hs2 ⊢
    exact lv_astore_nN hx hb hd1 rfl hl hi rfl fun ls hl => h κ A p l e R s m args below meth c cells slots Q B hc K H locs ls hW (ic_has_mono hl hs2)
  · rw [e9] at hs2 ⊢
    exact lv_astore_n hx hb hd1 rfl hl hi rfl fun ls hl => h κ A p l e R s m args below meth c cells slots Q B hc K H locs ls hW (ic_has_mono hl hs2)
theorem ev_iinc {i : Nat} {n : Int} {x : Int32} (v : Int32) (lv' : ic_L) (hd : ic_at M a b = some (pc, .iinc i n, 3, nx)) (hl0 : ic_lk lv i = some (ic_I x)) (hv : x + Int32.ofInt n = v) (hi : i < M.2.2.1) (hs : ic_sto lv i (ic_I v) lv') (h : ic_Ev M nx lv' st g r g') : ic_Ev M pc lv st g r g' := by
  intro κ A p l e R s m args below meth c cells slots Q B hc K H locs ls hW hl
  obtain ⟨hx, hb, hml, hown, hts, hfr, hlo, hF, hA, hok⟩ := id B
  obtain ⟨hd1, hd2⟩ := ic_okd_at hok hd
  dsimp only at hd1 hd2
  subst hd2
  obtain ⟨k, hk⟩ := List.getElem?_of_mem (List.mem_map.mpr ⟨(i, ic_I x), ic_lk_mem hl0, rfl⟩ : (i, Value.int x) ∈ ic_lv κ lv)
  exact lv_iinc hx hb hd1 hl hk hv hi rfl fun ls hl => h κ A p l e R s m args below meth c cells slots Q B hc K H locs ls hW (ic_has_mono hl (ic_sto1 hs rfl))
theorem ev_dup {v : ic_V} (hd : ic_at M a b = some (pc, .dup, 1, nx)) (hv : ic_cat v = 1) (h : ic_Ev M nx lv (v :: v :: st) g r g') : ic_Ev M pc lv (v :: st) g r g' := by
  intro κ A p l e R s m args below meth c cells slots Q B hc K H locs ls hW hl
  obtain ⟨hx, hb, hml, hown, hts, hfr, hlo, hF, hA, hok⟩ := id B
  obtain ⟨hd1, hd2⟩ := ic_okd_at hok hd
  dsimp only at hd1 hd2
  subst hd2
  exact lv_dup hx hb hd1 ((ic_cvcat κ v).trans hv) (h κ A p l e R s m args below meth c cells slots Q B hc K H locs ls hW hl)
theorem ev_pop {v : ic_V} (hd : ic_at M a b = some (pc, .pop, 1, nx)) (hv : ic_cat v = 1) (h : ic_Ev M nx lv (st) g r g') : ic_Ev M pc lv (v :: st) g r g' := by
  intro κ A p l e R s m args below meth c cells slots Q B hc K H locs ls hW hl
  obtain ⟨hx, hb, hml, hown, hts, hfr, hlo, hF, hA, hok⟩ := id B
  obtain ⟨hd1, hd2⟩ := ic_okd_at hok hd
  dsimp only at hd1 hd2
  subst hd2
  exact lv_pop hx hb hd1 ((ic_cvcat κ v).trans hv) (h κ A p l e R s m args below meth c cells slots Q B hc K H locs ls hW hl)
theorem ev_dup2 {u v : ic_V} (hd : ic_at M a b = some (pc, .dup2, 1, nx)) (hv : ic_cat v = 1) (hu : ic_cat u = 1) (h : ic_Ev M nx lv (v :: u :: v :: u :: st) g r g') : ic_Ev M pc lv (v :: u :: st) g r g' := by
  intro κ A p l e R s m args below meth c cells slots Q B hc K H locs ls hW hl
  obtain ⟨hx, hb, hml, hown, hts, hfr, hlo, hF, hA, hok⟩ := id B
  obtain ⟨hd1, hd2⟩ := ic_okd_at hok hd
  dsimp only at hd1 hd2
  subst hd2
  exact lv_dup2_11 hx hb hd1 ((ic_cvcat κ v).trans hv) ((ic_cvcat κ u).trans hu) (h κ A p l e R s m args below meth c cells slots Q B hc K H locs ls hW hl)
theorem ev_ifeq {x : Int32} {off : Int} (tgt : Nat) (hd : ic_at M a b = some (pc, .ifCond .eq off, 3, nx)) (ht : (pc : Int) + off = (tgt : Int)) (kt : (x = 0) → ic_Ev M tgt lv st g r g') (kf : ¬ (x = 0) → ic_Ev M nx lv st g r g') : ic_Ev M pc lv (ic_I x :: st) g r g' := by
  intro κ A p l e R s m args below meth c cells slots Q B hc K H locs ls hW hl
  obtain ⟨hx, hb, hml, hown, hts, hfr, hlo, hF, hA, hok⟩ := id B
  obtain ⟨hd1, hd2⟩ := ic_okd_at hok hd
  dsimp only at hd1 hd2
  subst hd2
  exact lv_if_eq hx hb hd1 ht (fun q => kt q κ A p l e R s m args below meth c cells slots Q B hc K H locs ls hW hl) (fun q => kf q κ A p l e R s m args below meth c cells slots Q B hc K H locs ls hW hl)
theorem ev_iceq {x y : Int32} {off : Int} (tgt : Nat) (hd : ic_at M a b = some (pc, .if_icmp .eq off, 3, nx)) (ht : (pc : Int) + off = (tgt : Int)) (kt : (x = y) → ic_Ev M tgt lv st g r g') (kf : ¬ (x = y) → ic_Ev M nx lv st g r g') : ic_Ev M pc lv (ic_I y :: ic_I x :: st) g r g' := by
  intro κ A p l e R s m args below meth c cells slots Q B hc K H locs ls hW hl
  obtain ⟨hx, hb, hml, hown, hts, hfr, hlo, hF, hA, hok⟩ := id B
  obtain ⟨hd1, hd2⟩ := ic_okd_at hok hd
  dsimp only at hd1 hd2
  subst hd2
  exact lv_icmp_eq hx hb hd1 ht (fun q => kt q κ A p l e R s m args below meth c cells slots Q B hc K H locs ls hW hl) (fun q => kf q κ A p l e R s m args below meth c cells slots Q B hc K H locs ls hW hl)
theorem ev_ifne {x : Int32} {off : Int} (tgt : Nat) (hd : ic_at M a b = some (pc, .ifCond .ne off, 3, nx)) (ht : (pc : Int) + off = (tgt : Int)) (kt : (¬ (x = 0)) → ic_Ev M tgt lv st g r g') (kf : x = 0 → ic_Ev M nx lv st g r g') : ic_Ev M pc lv (ic_I x :: st) g r g' := by
  intro κ A p l e R s m args below meth c cells slots Q B hc K H locs ls hW hl
  obtain ⟨hx, hb, hml, hown, hts, hfr, hlo, hF, hA, hok⟩ := id B
  obtain ⟨hd1, hd2⟩ := ic_okd_at hok hd
  dsimp only at hd1 hd2
  subst hd2
  exact lv_if_ne hx hb hd1 ht (fun q => kt q κ A p l e R s m args below meth c cells slots Q B hc K H locs ls hW hl) (fun q => kf q κ A p l e R s m args below meth c cells slots Q B hc K H locs ls hW hl)
theorem ev_icne {x y : Int32} {off : Int} (tgt : Nat) (hd : ic_at M a b = some (pc, .if_icmp .ne off, 3, nx)) (ht : (pc : Int) + off = (tgt : Int)) (kt : (¬ (x = y)) → ic_Ev M tgt lv st g r g') (kf : x = y → ic_Ev M nx lv st g r g') : ic_Ev M pc lv (ic_I y :: ic_I x :: st) g r g' := by
  intro κ A p l e R s m args below meth c cells slots Q B hc K H locs ls hW hl
  obtain ⟨hx, hb, hml, hown, hts, hfr, hlo, hF, hA, hok⟩ := id B
  obtain ⟨hd1, hd2⟩ := ic_okd_at hok hd
  dsimp only at hd1 hd2
  subst hd2
  exact lv_icmp_ne hx hb hd1 ht (fun q => kt q κ A p l e R s m args below meth c cells slots Q B hc K H locs ls hW hl) (fun q => kf q κ A p l e R s m args below meth c cells slots Q B hc K H locs ls hW hl)
theorem ev_iflt {x : Int32} {off : Int} (tgt : Nat) (hd : ic_at M a b = some (pc, .ifCond .lt off, 3, nx)) (ht : (pc : Int) + off = (tgt : Int)) (kt : (x < 0) → ic_Ev M tgt lv st g r g') (kf : ¬ (x < 0) → ic_Ev M nx lv st g r g') : ic_Ev M pc lv (ic_I x :: st) g r g' := by
  intro κ A p l e R s m args below meth c cells slots Q B hc K H locs ls hW hl
  obtain ⟨hx, hb, hml, hown, hts, hfr, hlo, hF, hA, hok⟩ := id B
  obtain ⟨hd1, hd2⟩ := ic_okd_at hok hd
  dsimp only at hd1 hd2
  subst hd2
  exact lv_if_lt hx hb hd1 ht (fun q => kt q κ A p l e R s m args below meth c cells slots Q B hc K H locs ls hW hl) (fun q => kf q κ A p l e R s m args below meth c cells slots Q B hc K H locs ls hW hl)
theorem ev_iclt {x y : Int32} {off : Int} (tgt : Nat) (hd : ic_at M a b = some (pc, .if_icmp .lt off, 3, nx)) (ht : (pc : Int) + off = (tgt : Int)) (kt : (x < y) → ic_Ev M tgt lv st g r g') (kf : ¬ (x < y) → ic_Ev M nx lv st g r g') : ic_Ev M pc lv (ic_I y :: ic_I x :: st) g r g' := by
  intro κ A p l e R s m args below meth c cells slots Q B hc K H locs ls hW hl
  obtain ⟨hx, hb, hml, hown, hts, hfr, hlo, hF, hA, hok⟩ := id B
  obtain ⟨hd1, hd2⟩ := ic_okd_at hok hd
  dsimp only at hd1 hd2
  subst hd2
  exact lv_icmp_lt hx hb hd1 ht (fun q => kt q κ A p l e R s m args below meth c cells slots Q B hc K H locs ls hW hl) (fun q => kf q κ A p l e R s m args below meth c cells slots Q B hc K H locs ls hW hl)
theorem ev_ifge {x : Int32} {off : Int} (tgt : Nat) (hd : ic_at M a b = some (pc, .ifCond .ge off, 3, nx)) (ht : (pc : Int) + off = (tgt : Int)) (kt : (0 ≤ x) → ic_Ev M tgt lv st g r g') (kf : ¬ (0 ≤ x) → ic_Ev M nx lv st g r g') : ic_Ev M pc lv (ic_I x :: st) g r g' := by
  intro κ A p l e R s m args below meth c cells slots Q B hc K H locs ls hW hl
  obtain ⟨hx, hb, hml, hown, hts, hfr, hlo, hF, hA, hok⟩ := id B
  obtain ⟨hd1, hd2⟩ := ic_okd_at hok hd
  dsimp only at hd1 hd2
  subst hd2
  exact lv_if_ge hx hb hd1 ht (fun q => kt q κ A p l e R s m args below meth c cells slots Q B hc K H locs ls hW hl) (fun q => kf q κ A p l e R s m args below meth c cells slots Q B hc K H locs ls hW hl)
theorem ev_icge {x y : Int32} {off : Int} (tgt : Nat) (hd : ic_at M a b = some (pc, .if_icmp .ge off, 3, nx)) (ht : (pc : Int) + off = (tgt : Int)) (kt : (y ≤ x) → ic_Ev M tgt lv st g r g') (kf : ¬ (y ≤ x) → ic_Ev M nx lv st g r g') : ic_Ev M pc lv (ic_I y :: ic_I x :: st) g r g' := by
  intro κ A p l e R s m args below meth c cells slots Q B hc K H locs ls hW hl
  obtain ⟨hx, hb, hml, hown, hts, hfr, hlo, hF, hA, hok⟩ := id B
  obtain ⟨hd1, hd2⟩ := ic_okd_at hok hd
  dsimp only at hd1 hd2
  subst hd2
  exact lv_icmp_ge hx hb hd1 ht (fun q => kt q κ A p l e R s m args below meth c cells slots Q B hc K H locs ls hW hl) (fun q => kf q κ A p l e R s m args below meth c cells slots Q B hc K H locs ls hW hl)
theorem ev_ifgt {x : Int32} {off : Int} (tgt : Nat) (hd : ic_at M a b = some (pc, .ifCond .gt off, 3, nx)) (ht : (pc : Int) + off = (tgt : Int)) (kt : (0 < x) → ic_Ev M tgt lv st g r g') (kf : ¬ (0 < x) → ic_Ev M nx lv st g r g') : ic_Ev M pc lv (ic_I x :: st) g r g' := by
  intro κ A p l e R s m args below meth c cells slots Q B hc K H locs ls hW hl
  obtain ⟨hx, hb, hml, hown, hts, hfr, hlo, hF, hA, hok⟩ := id B
  obtain ⟨hd1, hd2⟩ := ic_okd_at hok hd
  dsimp only at hd1 hd2
  subst hd2
  exact lv_if_gt hx hb hd1 ht (fun q => kt q κ A p l e R s m args below meth c cells slots Q B hc K H locs ls hW hl) (fun q => kf q κ A p l e R s m args below meth c cells slots Q B hc K H locs ls hW hl)
theorem ev_icgt {x y : Int32} {off : Int} (tgt : Nat) (hd : ic_at M a b = some (pc, .if_icmp .gt off, 3, nx)) (ht : (pc : Int) + off = (tgt : Int)) (kt : (y < x) → ic_Ev M tgt lv st g r g') (kf : ¬ (y < x) → ic_Ev M nx lv st g r g') : ic_Ev M pc lv (ic_I y :: ic_I x :: st) g r g' := by
  intro κ A p l e R s m args below meth c cells slots Q B hc K H locs ls hW hl
  obtain ⟨hx, hb, hml, hown, hts, hfr, hlo, hF, hA, hok⟩ := id B
  obtain ⟨hd1, hd2⟩ := ic_okd_at hok hd
  dsimp only at hd1 hd2
  subst hd2
  exact lv_icmp_gt hx hb hd1 ht (fun q => kt q κ A p l e R s m args below meth c cells slots Q B hc K H locs ls hW hl) (fun q => kf q κ A p l e R s m args below meth c cells slots Q B hc K H locs ls hW hl)
theorem ev_ifle {x : Int32} {off : Int} (tgt : Nat) (hd : ic_at M a b = some (pc, .ifCond .le off, 3, nx)) (ht : (pc : Int) + off = (tgt : Int)) (kt : (x ≤ 0) → ic_Ev M tgt lv st g r g') (kf : ¬ (x ≤ 0) → ic_Ev M nx lv st g r g') : ic_Ev M pc lv (ic_I x :: st) g r g' := by
  intro κ A p l e R s m args below meth c cells slots Q B hc K H locs ls hW hl
  obtain ⟨hx, hb, hml, hown, hts, hfr, hlo, hF, hA, hok⟩ := id B
  obtain ⟨hd1, hd2⟩ := ic_okd_at hok hd
  dsimp only at hd1 hd2
  subst hd2
  exact lv_if_le hx hb hd1 ht (fun q => kt q κ A p l e R s m args below meth c cells slots Q B hc K H locs ls hW hl) (fun q => kf q κ A p l e R s m args below meth c cells slots Q B hc K H locs ls hW hl)
theorem ev_icle {x y : Int32} {off : Int} (tgt : Nat) (hd : ic_at M a b = some (pc, .if_icmp .le off, 3, nx)) (ht : (pc : Int) + off = (tgt : Int)) (kt : (x ≤ y) → ic_Ev M tgt lv st g r g') (kf : ¬ (x ≤ y) → ic_Ev M nx lv st g r g') : ic_Ev M pc lv (ic_I y :: ic_I x :: st) g r g' := by
  intro κ A p l e R s m args below meth c cells slots Q B hc K H locs ls hW hl
  obtain ⟨hx, hb, hml, hown, hts, hfr, hlo, hF, hA, hok⟩ := id B
  obtain ⟨hd1, hd2⟩ := ic_okd_at hok hd
  dsimp only at hd1 hd2
  subst hd2
  exact lv_icmp_le hx hb hd1 ht (fun q => kt q κ A p l e R s m args below meth c cells slots Q B hc K H locs ls hW hl) (fun q => kf q κ A p l e R s m args below meth c cells slots Q B hc K H locs ls hW hl)
theorem ev_goto {off : Int} (tgt : Nat) (hd : ic_at M a b = some (pc, .goto off, 3, nx)) (ht : (pc : Int) + off = (tgt : Int)) (h : ic_Ev M tgt lv st g r g') : ic_Ev M pc lv st g r g' := by
  intro κ A p l e R s m args below meth c cells slots Q B hc K H locs ls hW hl
  obtain ⟨hx, hb, hml, hown, hts, hfr, hlo, hF, hA, hok⟩ := id B
  obtain ⟨hd1, hd2⟩ := ic_okd_at hok hd
  dsimp only at hd1 hd2
  exact lv_goto hx hb hd1 ht (h κ A p l e R s m args below meth c cells slots Q B hc K H locs ls hW hl)
theorem ev_ifnull1 {off : Int} (tgt : Nat) (hd : ic_at M a b = some (pc, .ifnull off, 3, nx)) (ht : (pc : Int) + off = (tgt : Int)) (h : ic_Ev M tgt lv st g r g') : ic_Ev M pc lv (ic_N :: st) g r g' := by
  intro κ A p l e R s m args below meth c cells slots Q B hc K H locs ls hW hl
  obtain ⟨hx, hb, hml, hown, hts, hfr, hlo, hF, hA, hok⟩ := id B
  obtain ⟨hd1, hd2⟩ := ic_okd_at hok hd
  dsimp only at hd1 hd2
  exact lv_ifnullN hx hb hd1 ht (h κ A p l e R s m args below meth c cells slots Q B hc K H locs ls hW hl)
theorem ev_ifnull0 {off : Int} {k : ic_K} (hk : k.1 ≠ 26) (hd : ic_at M a b = some (pc, .ifnull off, 3, nx)) (h : ic_Ev M nx lv st g r g') : ic_Ev M pc lv (.inr (.inr (some k)) :: st) g r g' := by
  intro κ A p l e R s m args below meth c cells slots Q B hc K H locs ls hW hl
  obtain ⟨hx, hb, hml, hown, hts, hfr, hlo, hF, hA, hok⟩ := id B
  obtain ⟨hd1, hd2⟩ := ic_okd_at hok hd
  dsimp only at hd1 hd2
  subst hd2
  have e3 : ic_sv κ ((.inr (.inr (some k)) : ic_V) :: st) = .ref (ic_ad κ k) :: ic_sv κ st := by rw [← ic_cvk hk]; rfl
  rw [e3]
  exact lv_ifnull hx hb hd1 (h κ A p l e R s m args below meth c cells slots Q B hc K H locs ls hW hl)
theorem ev_ifnonnull0 {off : Int} {k : ic_K} (tgt : Nat) (hk : k.1 ≠ 26) (hd : ic_at M a b = some (pc, .ifnonnull off, 3, nx)) (ht : (pc : Int) + off = (tgt : Int)) (h : ic_Ev M tgt lv st g r g') : ic_Ev M pc lv (.inr (.inr (some k)) :: st) g r g' := by
  intro κ A p l e R s m args below meth c cells slots Q B hc K H locs ls hW hl
  obtain ⟨hx, hb, hml, hown, hts, hfr, hlo, hF, hA, hok⟩ := id B
  obtain ⟨hd1, hd2⟩ := ic_okd_at hok hd
  dsimp only at hd1 hd2
  have e3 : ic_sv κ ((.inr (.inr (some k)) : ic_V) :: st) = .ref (ic_ad κ k) :: ic_sv κ st := by rw [← ic_cvk hk]; rfl
  rw [e3]
  exact lv_ifnonnull hx hb hd1 ht (h κ A p l e R s m args below meth c cells slots Q B hc K H locs ls hW hl)
theorem ev_ifnonnull1 {off : Int} (hd : ic_at M a b = some (pc, .ifnonnull off, 3, nx)) (h : ic_Ev M nx lv st g r g') : ic_Ev M pc lv (ic_N :: st) g r g' := by
  intro κ A p l e R s m args below meth c cells slots Q B hc K H locs ls hW hl
  obtain ⟨hx, hb, hml, hown, hts, hfr, hlo, hF, hA, hok⟩ := id B
  obtain ⟨hd1, hd2⟩ := ic_okd_at hok hd
  dsimp only at hd1 hd2
  subst hd2
  exact lv_ifnonnullN hx hb hd1 (h κ A p l e R s m args below meth c cells slots Q B hc K H locs ls hW hl)
theorem ic_ofi {x : Int32} {k : Int} {v : Int32} (hv : x = v) (hk : v.toInt = k) : x.toInt = k := by rw [hv]; exact hk
theorem ev_tsw1 {dflt lo hi : Int} {offs : Array Int} {len : Nat} {x : Int32} (v : Int32) (off : Int) (tgt : Nat) (hd : ic_at M a b = some (pc, .tableswitch dflt lo hi offs, len, nx)) (hv : x = v) (h1 : ¬ v.toInt < lo) (h2 : ¬ hi < v.toInt) (ho : offs[(v.toInt - lo).toNat]? = some off) (ht : (pc : Int) + off = (tgt : Int)) (h : ic_Ev M tgt lv st g r g') : ic_Ev M pc lv (ic_I x :: st) g r g' := by
  intro κ A p l e R s m args below meth c cells slots Q B hc K H locs ls hW hl
  obtain ⟨hx, hb, hml, hown, hts, hfr, hlo, hF, hA, hok⟩ := id B
  obtain ⟨hd1, hd2⟩ := ic_okd_at hok hd
  dsimp only at hd1 hd2
  subst hv
  exact lv_tableIn hx hb hd1 h1 h2 ho ht (h κ A p l e R s m args below meth c cells slots Q B hc K H locs ls hW hl)
theorem ev_tsw0 {dflt lo hi : Int} {offs : Array Int} {len : Nat} {x : Int32} (ks : List Int32) (tgt : Nat) (hd : ic_at M a b = some (pc, .tableswitch dflt lo hi offs, len, nx)) (hk : ∀ k ∈ ks, ¬ x = k) (hcov : (List.range offs.size).all (fun j => decide (offs[j]? = some dflt) || ks.any (fun k => decide (k.toInt = lo + (j : Int)))) = true) (hs : (offs.size : Int) = hi - lo + 1) (ht : (pc : Int) + dflt = (tgt : Int)) (h : ic_Ev M tgt lv st g r g') : ic_Ev M pc lv (ic_I x :: st) g r g' := by
  intro κ A p l e R s m args below meth c cells slots Q B hc K H locs ls hW hl
  obtain ⟨hx, hb, hml, hown, hts, hfr, hlo, hF, hA, hok⟩ := id B
  obtain ⟨hd1, hd2⟩ := ic_okd_at hok hd
  dsimp only at hd1 hd2
  by_cases h1 : x.toInt < lo ∨ hi < x.toInt
  · exact lv_tableOut hx hb hd1 h1 ht (h κ A p l e R s m args below meth c cells slots Q B hc K H locs ls hW hl)
  · have h3 : ¬ x.toInt < lo := fun q => h1 (Or.inl q)
    have h4 : ¬ hi < x.toInt := fun q => h1 (Or.inr q)
    have h5 := List.all_eq_true.mp hcov (x.toInt - lo).toNat (List.mem_range.mpr (by omega))
    rw [Bool.or_eq_true] at h5
    rcases h5 with h5 | h5
    · exact lv_tableIn hx hb hd1 h3 h4 (of_decide_eq_true h5) ht (h κ A p l e R s m args below meth c cells slots Q B hc K H locs ls hW hl)
    · obtain ⟨k, hm, hk2⟩ := List.any_eq_true.mp h5
      have hk3 := of_decide_eq_true hk2
      exact absurd (Int32.toInt_inj.mp (by omega)) (hk k hm)
theorem ev_lsw {dflt : Int} {ps : Array (Int × Int)} {len : Nat} {x : Int32} (off : Int) (tgt : Nat) (hd : ic_at M a b = some (pc, .lookupswitch dflt ps, len, nx)) (hp : (ps.toList.zip (ps.toList.drop 1)).all (fun (a, next) => a.1 < next.1) = true) (ho : Op.lookupswitch.offset ps.toList dflt x.toInt = off) (ht : (pc : Int) + off = (tgt : Int)) (h : ic_Ev M tgt lv st g r g') : ic_Ev M pc lv (ic_I x :: st) g r g' := by
  intro κ A p l e R s m args below meth c cells slots Q B hc K H locs ls hW hl
  obtain ⟨hx, hb, hml, hown, hts, hfr, hlo, hF, hA, hok⟩ := id B
  obtain ⟨hd1, hd2⟩ := ic_okd_at hok hd
  dsimp only at hd1 hd2
  exact lv_lookup hx hb hd1 hp ho ht (h κ A p l e R s m args below meth c cells slots Q B hc K H locs ls hW hl)
theorem ic_lsw0 {x : Int32} {d : Int} : ∀ {ps : List (Int × Int)} (ks : List Int32), (∀ k ∈ ks, ¬ x = k) → ps.all (fun q => ks.any (fun k => decide (k.toInt = q.1))) = true → Op.lookupswitch.offset ps d x.toInt = d
  | [], _, _, _ => by simp [Op.lookupswitch.offset]
  | q :: l, ks, hk, h => by
    simp only [List.all_cons, Bool.and_eq_true] at h
    obtain ⟨k, hm, hk2⟩ := List.any_eq_true.mp h.1
    obtain ⟨a0, o0⟩ := q
    rw [lv_osw (hk k hm) (of_decide_eq_true hk2)]
    exact ic_lsw0 ks hk h.2
theorem ev_ireturn {v : Int32} {ty : FieldType} (hd : ic_at M a b = some (pc, .ireturn, 1, nx)) (hr : M.2.2.2.1 = some ty) (hn : narrow ty (.int v) = .int v) : ic_Ev M pc lv [ic_I v] g (some (ic_I v)) g := by
  intro κ A p l e R s m args below meth c cells slots Q B hc K H locs ls hW hl
  obtain ⟨hx, hb, hml, hown, hts, hfr, hlo, hF, hA, hok⟩ := id B
  exact K H locs pc ls ⟨(ic_okd_at hok hd).1, ty, hr, hn⟩ hW
theorem ev_lreturn {v : Int64} (hd : ic_at M a b = some (pc, .lreturn, 1, nx)) (hr : M.2.2.2.1 = some .long) : ic_Ev M pc lv [ic_J v] g (some (ic_J v)) g := by
  intro κ A p l e R s m args below meth c cells slots Q B hc K H locs ls hW hl
  obtain ⟨hx, hb, hml, hown, hts, hfr, hlo, hF, hA, hok⟩ := id B
  exact K H locs pc ls ⟨(ic_okd_at hok hd).1, hr⟩ hW
theorem ev_areturn {o : Option ic_K} {n : String} (hd : ic_at M a b = some (pc, .areturn, 1, nx)) (hr : M.2.2.2.1 = some (.object n)) : ic_Ev M pc lv [.inr (.inr o)] g (some (.inr (.inr o))) g := by
  intro κ A p l e R s m args below meth c cells slots Q B hc K H locs ls hW hl
  obtain ⟨hx, hb, hml, hown, hts, hfr, hlo, hF, hA, hok⟩ := id B
  exact K H locs pc ls ⟨(ic_okd_at hok hd).1, _, hr, Or.inl ⟨n, rfl⟩⟩ hW
theorem ev_return (hd : ic_at M a b = some (pc, .return_, 1, nx)) (hr : M.2.2.2.1 = none) : ic_Ev M pc lv [] g none g := by
  intro κ A p l e R s m args below meth c cells slots Q B hc K H locs ls hW hl
  obtain ⟨hx, hb, hml, hown, hts, hfr, hlo, hF, hA, hok⟩ := id B
  exact K H locs pc ls ⟨(ic_okd_at hok hd).1, hr⟩ hW
end IC
end
section
/-! fields, arrays, statics, calls over the fixed world -/
theorem ic_wsk {κ : ic_X} {g : ic_S} {x : ic_K} (hx : x ∈ ic_keys) : ∃ q0 : Nat, ic_keys[q0]? = some x ∧ (ic_ws κ g)[q0]? = some (ic_ad κ x, ic_cel κ g x) := by
  obtain ⟨q0, h⟩ := List.getElem?_of_mem hx
  exact ⟨q0, h, by unfold ic_ws; rw [List.getElem?_map, h]; rfl⟩
theorem ic_set {κ : ic_X} {g g' : ic_S} {x : ic_K} {q0 : Nat} (hq : ic_keys[q0]? = some x) (ho : ∀ y ∈ ic_keys, y ≠ x → ic_cel κ g' y = ic_cel κ g y) : (ic_ws κ g).set q0 (ic_ad κ x, ic_cel κ g' x) = ic_ws κ g' := by
  apply List.ext_getElem?
  intro k
  unfold ic_ws
  by_cases hk : k = q0
  · subst hk
    have hl : k < (ic_keys.map fun y => (ic_ad κ y, ic_cel κ g y)).length := by
      rw [List.length_map]
      exact (List.getElem?_eq_some_iff.mp hq).1
    rw [List.getElem?_set_self hl, List.getElem?_map, hq]
    rfl
  · rw [List.getElem?_set_ne (Ne.symm hk), List.getElem?_map, List.getElem?_map]
    cases hy : ic_keys[k]? with
    | none => rfl
    | some y =>
      have hne : y ≠ x := by
        intro e
        subst e
        obtain ⟨h1, e1⟩ := List.getElem?_eq_some_iff.mp hy
        obtain ⟨h2, e2⟩ := List.getElem?_eq_some_iff.mp hq
        exact hk ((List.getElem_inj ic_nd).mp (e1.trans e2.symm))
      show some (ic_ad κ y, ic_cel κ g y) = some (ic_ad κ y, ic_cel κ g' y)
      rw [ho y (List.mem_of_getElem? hy) hne]
theorem ic_G.to {κ : ic_X} {A : Nat → Prop} {g g' : ic_S} {s : State} (h : ic_G κ A g s) (h1 : ∀ j, g'.1 40 j = g.1 40 j) (h2 : g'.1 41 0 = g.1 41 0) : ic_G κ A g' s := by
  obtain ⟨L, xs, a1, a2, a3, a4⟩ := h
  exact ⟨L, xs, a1, fun j hj => (a2 j hj).trans (h1 j).symm, a3.trans h2.symm, a4⟩
/-- field no j of class no ci at the key x reads v -/
def ic_fg (ci j : Nat) (g : ic_S) (x : ic_K) (v : ic_V) : Prop := x ∈ ic_keys ∧ ∀ κ : ic_X, ∃ fs, ic_cel κ g x = .inr (ci, fs) ∧ fs[j]? = some (ic_cv κ v)
/-- and becomes v in g' -/
def ic_fp (ci j : Nat) (g : ic_S) (x : ic_K) (v : ic_V) (g' : ic_S) : Prop := x ∈ ic_keys ∧ (∀ κ : ic_X, ∃ fs, ic_cel κ g x = .inr (ci, fs) ∧ ic_cel κ g' x = .inr (ci, fs.set j (ic_cv κ v)) ∧ j < fs.length) ∧ (∀ κ : ic_X, ∀ y ∈ ic_keys, y ≠ x → ic_cel κ g' y = ic_cel κ g y) ∧ (∀ i, g'.1 40 i = g.1 40 i) ∧ g'.1 41 0 = g.1 41 0 ∧ ∀ κ : ic_X, narrow (ic_ty ci j) (ic_cv κ v) = ic_cv κ v ∧ fits (ic_ty ci j) (ic_cv κ v) = true
/-- an int array (t0: 0 int, 1 byte) -/
def ic_ai (t0 n : Nat) (g : ic_S) (x : ic_K) (f : Nat → Int32) : Prop := x ∈ ic_keys ∧ t0 < 2 ∧ ∀ κ : ic_X, ic_cel κ g x = .inl (κ.2.2.1 t0, n, .inl f)
/-- its place i becomes v in g' -/
def ic_ap (t0 n : Nat) (g : ic_S) (x : ic_K) (f : Nat → Int32) (i : Nat) (v : Int32) (g' : ic_S) : Prop := x ∈ ic_keys ∧ (∀ κ : ic_X, ic_cel κ g x = .inl (κ.2.2.1 t0, n, .inl f) ∧ ic_cel κ g' x = .inl (κ.2.2.1 t0, n, .inl (upd f i v))) ∧ (∀ κ : ic_X, ∀ y ∈ ic_keys, y ≠ x → ic_cel κ g' y = ic_cel κ g y) ∧ (∀ i, g'.1 40 i = g.1 40 i) ∧ g'.1 41 0 = g.1 41 0
/-- an array of references -/
def ic_ar (t0 n : Nat) (g : ic_S) (x : ic_K) (f : Nat → ic_K) : Prop := x ∈ ic_keys ∧ (t0 = 2 ∨ t0 = 3) ∧ ∀ κ : ic_X, ic_cel κ g x = .inl (κ.2.2.1 t0, n, .inr (.inr (.inr (.inr fun j => some (ic_ad κ (f j))))))
def ic_in (i : Int32) (n : Nat) : Bool := decide (0 ≤ i.toInt) && decide (i.toInt < n)
theorem ic_inv {i : Int32} {n : Nat} (h : ic_in i n = true) : vp_in i n := by
  unfold ic_in at h
  simp only [Bool.and_eq_true, decide_eq_true_eq] at h
  exact vp_in_iff.mpr h
theorem ic_inl {i : Int32} {n : Nat} (h : ic_in i n = true) : i.toNatClampNeg < n := by
  have := ic_inv h
  exact Nat.not_le.mp fun q => this (Or.inr q)
theorem ic_svk {κ : ic_X} {x : ic_K} {st : List ic_V} (h : x.1 ≠ 26) : ic_sv κ ((.inr (.inr (some x)) : ic_V) :: st) = .ref (ic_ad κ x) :: ic_sv κ st := by rw [← ic_cvk h]; rfl
section IC2
variable {M : ic_M} {pc nx : Nat} {lv lv' : ic_L} {st : List ic_V} {g g1 g' : ic_S} {r : Option ic_V} {a b : Nat}
theorem ev_get {idx : Nat} (ci j : Nat) {x : ic_K} {v : ic_V} {q : vw_C} (hd : ic_at M a b = some (pc, .getfield idx, 3, nx)) (hq : ic_cls[ci]? = some q) (hj : j < q.2.2) (hl0 : Cond.fieldLink M.1.cls idx (q.2.1 j).1 (q.2.1 j).2.1 (q.2.1 j).2.2.1 ∈ lw_gd) (hv : ic_fg ci j g x v) (h : ic_Ev M nx lv (v :: st) g r g') : ic_Ev M pc lv (.inr (.inr (some x)) :: st) g r g' := by
  intro κ A p l e R s m args below meth c cells slots Q B hc K H locs ls hW hl
  obtain ⟨hx, hb, hml, hown, hts, hfr, hlo, hF, hA, hok⟩ := id B
  obtain ⟨hd1, hd2⟩ := ic_okd_at hok hd
  dsimp only at hd1 hd2
  subst hd2
  obtain ⟨hxk, hv⟩ := hv
  obtain ⟨fs, hc1, hv1⟩ := hv κ
  obtain ⟨q0, -, hw⟩ := ic_wsk (κ := κ) (g := g) hxk
  rw [hc1] at hw
  rw [ic_svk (ic_k26 hxk)]
  exact va_get (C := q.1) (T := q.2.1) (N := q.2.2) hx hb hts (ic_cls_in ci q hq) hown hF.1 hW.1 q0 hw hq j hj (hts _ hl0) (fun _ h9 => h9) hv1 hd1 (h κ A p l e R s m args below meth c cells slots Q B hc K H locs ls hW hl)
theorem ev_put {idx : Nat} (ci j : Nat) {x : ic_K} {v : ic_V} {q : vw_C} (hd : ic_at M a b = some (pc, .putfield idx, 3, nx)) (hq : ic_cls[ci]? = some q) (hj : j < q.2.2) (hl0 : Cond.fieldLink M.1.cls idx (q.2.1 j).1 (q.2.1 j).2.1 (q.2.1 j).2.2.1 ∈ lw_gd) (hfin : (q.2.1 j).2.2.2 = false) (hv : ic_fp ci j g x v g1) (h : ic_Ev M nx lv st g1 r g') : ic_Ev M pc lv (v :: .inr (.inr (some x)) :: st) g r g' := by
  intro κ A p l e R s m args below meth c cells slots Q B hc K H locs ls hW hl
  obtain ⟨hx, hb, hml, hown, hts, hfr, hlo, hF, hA, hok⟩ := id B
  obtain ⟨hd1, hd2⟩ := ic_okd_at hok hd
  dsimp only at hd1 hd2
  subst hd2
  obtain ⟨hxk, hv, ho, hg1, hg2, hn⟩ := hv
  obtain ⟨fs, hc1, hc2, hlen⟩ := hv κ
  obtain ⟨q0, hq0, hw⟩ := ic_wsk (κ := κ) (g := g) hxk
  rw [hc1] at hw
  have e3 : ic_sv κ (v :: (.inr (.inr (some x)) : ic_V) :: st) = ic_cv κ v :: .ref (ic_ad κ x) :: ic_sv κ st := by rw [← ic_svk (ic_k26 hxk)]; rfl
  rw [e3]
  refine va_put (C := q.1) (T := q.2.1) (N := q.2.2) hx hb hts (ic_cls_in ci q hq) (ic_ty ci) (ic_cls_ty ci q hq) (ic_cls_nm ci q hq) hown hF.1 hW.1 hW.2.1 hW.2.2.1 q0 hw hq j hj (hts _ hl0) (fun _ h9 => h9) hfin (ic_cls_ty ci q hq j hj) (hn κ).1 (hn κ).2 hlen hd1 (fun H1 locs1 hP hD hS => ?_)
  rw [← hc2, ic_set hq0 (ho κ)] at hP hD
  exact h κ A p l e R s m args below meth c cells slots Q B hc K H1 locs1 ls ⟨hP, hD, hS, hW.2.2.2.to hg1 hg2⟩ hl
theorem ic_tysi (κ : ic_X) {t0 : Nat} (h : t0 < 2) : ∃ ty, (ic_tys κ)[t0]? = some (κ.2.2.1 t0, ty) := by
  rcases (show t0 = 0 ∨ t0 = 1 by omega) with rfl | rfl
  · exact ⟨.int, rfl⟩
  · exact ⟨.byte, rfl⟩
theorem ev_alen {x : ic_K} {t0 n : Nat} {f : Nat → Int32} (v : Int32) (hd : ic_at M a b = some (pc, .arraylength, 1, nx)) (ha : ic_ai t0 n g x f) (hn : Int32.ofNat n = v) (h : ic_Ev M nx lv (ic_I v :: st) g r g') : ic_Ev M pc lv (.inr (.inr (some x)) :: st) g r g' := by
  intro κ A p l e R s m args below meth c cells slots Q B hc K H locs ls hW hl
  obtain ⟨hx, hb, hml, hown, hts, hfr, hlo, hF, hA, hok⟩ := id B
  obtain ⟨hd1, hd2⟩ := ic_okd_at hok hd
  dsimp only at hd1 hd2
  subst hd2
  obtain ⟨hxk, ht0, hc1⟩ := ha
  obtain ⟨q0, -, hw⟩ := ic_wsk (κ := κ) (g := g) hxk
  rw [hc1] at hw
  obtain ⟨ty, hty⟩ := ic_tysi κ ht0
  rw [ic_svk (ic_k26 hxk)]
  exact va_alen hx hb hF.1 hW.1 q0 t0 hw hty hn hd1 (h κ A p l e R s m args below meth c cells slots Q B hc K H locs ls hW hl)
theorem ev_alenr {x : ic_K} {t0 n : Nat} {f : Nat → ic_K} (v : Int32) (hd : ic_at M a b = some (pc, .arraylength, 1, nx)) (ha : ic_ar t0 n g x f) (hn : Int32.ofNat n = v) (h : ic_Ev M nx lv (ic_I v :: st) g r g') : ic_Ev M pc lv (.inr (.inr (some x)) :: st) g r g' := by
  intro κ A p l e R s m args below meth c cells slots Q B hc K H locs ls hW hl
  obtain ⟨hx, hb, hml, hown, hts, hfr, hlo, hF, hA, hok⟩ := id B
  obtain ⟨hd1, hd2⟩ := ic_okd_at hok hd
  dsimp only at hd1 hd2
  subst hd2
  obtain ⟨hxk, ht0, hc1⟩ := ha
  obtain ⟨q0, -, hw⟩ := ic_wsk (κ := κ) (g := g) hxk
  rw [hc1] at hw
  rw [ic_svk (ic_k26 hxk)]
  rcases ht0 with rfl | rfl
  · exact va_alen hx hb hF.1 hW.1 q0 2 hw (ty := .object "IronCall$Thing") rfl hn hd1 (h κ A p l e R s m args below meth c cells slots Q B hc K H locs ls hW hl)
  · exact va_alen hx hb hF.1 hW.1 q0 3 hw (ty := .object "IronCall$Sheet") rfl hn hd1 (h κ A p l e R s m args below meth c cells slots Q B hc K H locs ls hW hl)
theorem ev_iald {x : ic_K} {n : Nat} {f : Nat → Int32} {i : Int32} (hd : ic_at M a b = some (pc, .iaload, 1, nx)) (ha : ic_ai 0 n g x f) (hi : ic_in i n = true) (h : ic_Ev M nx lv (ic_I (f i.toNatClampNeg) :: st) g r g') : ic_Ev M pc lv (ic_I i :: .inr (.inr (some x)) :: st) g r g' := by
  intro κ A p l e R s m args below meth c cells slots Q B hc K H locs ls hW hl
  obtain ⟨hx, hb, hml, hown, hts, hfr, hlo, hF, hA, hok⟩ := id B
  obtain ⟨hd1, hd2⟩ := ic_okd_at hok hd
  dsimp only at hd1 hd2
  subst hd2
  obtain ⟨hxk, -, hc1⟩ := ha
  obtain ⟨q0, -, hw⟩ := ic_wsk (κ := κ) (g := g) hxk
  rw [hc1] at hw
  have e3 : ic_sv κ (ic_I i :: (.inr (.inr (some x)) : ic_V) :: st) = .int i :: .ref (ic_ad κ x) :: ic_sv κ st := by rw [← ic_svk (ic_k26 hxk)]; rfl
  rw [e3]
  exact va_iald hx hb hF.1 hW.1 q0 0 hw rfl (ic_inv hi) hd1 (h κ A p l e R s m args below meth c cells slots Q B hc K H locs ls hW hl)
theorem ev_bald {x : ic_K} {n : Nat} {f : Nat → Int32} {i : Int32} (hd : ic_at M a b = some (pc, .baload, 1, nx)) (ha : ic_ai 1 n g x f) (hi : ic_in i n = true) (h : ic_Ev M nx lv (ic_I (f i.toNatClampNeg) :: st) g r g') : ic_Ev M pc lv (ic_I i :: .inr (.inr (some x)) :: st) g r g' := by
  intro κ A p l e R s m args below meth c cells slots Q B hc K H locs ls hW hl
  obtain ⟨hx, hb, hml, hown, hts, hfr, hlo, hF, hA, hok⟩ := id B
  obtain ⟨hd1, hd2⟩ := ic_okd_at hok hd
  dsimp only at hd1 hd2
  subst hd2
  obtain ⟨hxk, -, hc1⟩ := ha
  obtain ⟨q0, -, hw⟩ := ic_wsk (κ := κ) (g := g) hxk
  rw [hc1] at hw
  have e3 : ic_sv κ (ic_I i :: (.inr (.inr (some x)) : ic_V) :: st) = .int i :: .ref (ic_ad κ x) :: ic_sv κ st := by rw [← ic_svk (ic_k26 hxk)]; rfl
  rw [e3]
  exact va_bald hx hb hF.1 hW.1 q0 1 hw rfl (ic_inv hi) hd1 (h κ A p l e R s m args below meth c cells slots Q B hc K H locs ls hW hl)
theorem ev_iast {x : ic_K} {n : Nat} {f : Nat → Int32} {i v : Int32} (hd : ic_at M a b = some (pc, .iastore, 1, nx)) (hi : ic_in i n = true) (ha : ic_ap 0 n g x f i.toNatClampNeg v g1) (h : ic_Ev M nx lv st g1 r g') : ic_Ev M pc lv (ic_I v :: ic_I i :: .inr (.inr (some x)) :: st) g r g' := by
  intro κ A p l e R s m args below meth c cells slots Q B hc K H locs ls hW hl
  obtain ⟨hx, hb, hml, hown, hts, hfr, hlo, hF, hA, hok⟩ := id B
  obtain ⟨hd1, hd2⟩ := ic_okd_at hok hd
  dsimp only at hd1 hd2
  subst hd2
  obtain ⟨hxk, hc1, ho, hg1, hg2⟩ := ha
  obtain ⟨q0, hq0, hw⟩ := ic_wsk (κ := κ) (g := g) hxk
  rw [(hc1 κ).1] at hw
  have e3 : ic_sv κ (ic_I v :: ic_I i :: (.inr (.inr (some x)) : ic_V) :: st) = .int v :: .int i :: .ref (ic_ad κ x) :: ic_sv κ st := by rw [← ic_svk (ic_k26 hxk)]; rfl
  rw [e3]
  refine va_iast hx hb hF.1 hW.1 hW.2.1 hW.2.2.1 q0 0 hw rfl (ic_inv hi) hd1 (fun H1 locs1 hP hD hS => ?_)
  rw [← (hc1 κ).2, ic_set hq0 (ho κ)] at hP hD
  exact h κ A p l e R s m args below meth c cells slots Q B hc K H1 locs1 ls ⟨hP, hD, hS, hW.2.2.2.to hg1 hg2⟩ hl
theorem ev_bast {x : ic_K} {n : Nat} {f : Nat → Int32} {i v : Int32} (hd : ic_at M a b = some (pc, .bastore, 1, nx)) (hi : ic_in i n = true) (ha : ic_ap 1 n g x f i.toNatClampNeg v.toInt8.toInt32 g1) (h : ic_Ev M nx lv st g1 r g') : ic_Ev M pc lv (ic_I v :: ic_I i :: .inr (.inr (some x)) :: st) g r g' := by
  intro κ A p l e R s m args below meth c cells slots Q B hc K H locs ls hW hl
  obtain ⟨hx, hb, hml, hown, hts, hfr, hlo, hF, hA, hok⟩ := id B
  obtain ⟨hd1, hd2⟩ := ic_okd_at hok hd
  dsimp only at hd1 hd2
  subst hd2
  obtain ⟨hxk, hc1, ho, hg1, hg2⟩ := ha
  obtain ⟨q0, hq0, hw⟩ := ic_wsk (κ := κ) (g := g) hxk
  rw [(hc1 κ).1] at hw
  have e3 : ic_sv κ (ic_I v :: ic_I i :: (.inr (.inr (some x)) : ic_V) :: st) = .int v :: .int i :: .ref (ic_ad κ x) :: ic_sv κ st := by rw [← ic_svk (ic_k26 hxk)]; rfl
  rw [e3]
  refine va_bast hx hb hF.1 hW.1 hW.2.1 hW.2.2.1 q0 1 hw rfl (ic_inv hi) hd1 (fun H1 locs1 hP hD hS => ?_)
  rw [show vp_nar .byte v = v.toInt8.toInt32 from rfl, ← (hc1 κ).2, ic_set hq0 (ho κ)] at hP hD
  exact h κ A p l e R s m args below meth c cells slots Q B hc K H1 locs1 ls ⟨hP, hD, hS, hW.2.2.2.to hg1 hg2⟩ hl
theorem ev_aald {x : ic_K} {t0 n : Nat} {f : Nat → ic_K} {i : Int32} (hd : ic_at M a b = some (pc, .aaload, 1, nx)) (ha : ic_ar t0 n g x f) (hi : ic_in i n = true) (hf : (f i.toNatClampNeg).1 ≠ 26) (h : ic_Ev M nx lv (.inr (.inr (some (f i.toNatClampNeg))) :: st) g r g') : ic_Ev M pc lv (ic_I i :: .inr (.inr (some x)) :: st) g r g' := by
  intro κ A p l e R s m args below meth c cells slots Q B hc K H locs ls hW hl
  obtain ⟨hx, hb, hml, hown, hts, hfr, hlo, hF, hA, hok⟩ := id B
  obtain ⟨hd1, hd2⟩ := ic_okd_at hok hd
  dsimp only at hd1 hd2
  subst hd2
  obtain ⟨hxk, ht0, hc1⟩ := ha
  obtain ⟨q0, -, hw⟩ := ic_wsk (κ := κ) (g := g) hxk
  rw [hc1] at hw
  have e3 : ic_sv κ (ic_I i :: (.inr (.inr (some x)) : ic_V) :: st) = .int i :: .ref (ic_ad κ x) :: ic_sv κ st := by rw [← ic_svk (ic_k26 hxk)]; rfl
  rw [e3]
  have h2 := h κ A p l e R s m args below meth c cells slots Q B hc K H locs ls hW hl
  rw [ic_svk hf] at h2
  rcases ht0 with rfl | rfl
  · exact va_aldq hx hb hF.1 hW.1 q0 2 (C := "IronCall$Thing") hw rfl (ic_inv hi) hd1 h2
  · exact va_aldq hx hb hF.1 hW.1 q0 3 (C := "IronCall$Sheet") hw rfl (ic_inv hi) hd1 h2
theorem ev_copy {idx : Nat} {x y : ic_K} {n0 n1 : Nat} {f1 f2 : Nat → Int32} {sp dp n : Int32} (hd : ic_at M a b = some (pc, .invokestatic idx, 3, nx)) (hl0 : Cond.methodLink M.1.cls idx arraycopyName ∈ lw_gd) (hnat : Cond.native arraycopyName ∈ lw_gd ∧ Cond.static arraycopyName ∈ lw_gd ∧ Cond.initialized "java/lang/System" ∈ lw_gd) (hroom : 1 ≤ M.2.2.2.2.1 ∧ 8 + (nativeFrameWords "java/lang/System" "arraycopy" 5 + 11) ≤ M.2.2.2.2.2.1) (hst : (st.map ic_cat).sum ≤ 8) (ha : ic_ai 0 n0 g x f1) (hb0 : ic_ai 0 n1 g y f2) (h1 : ¬ sp < 0) (h2 : ¬ dp < 0) (h3 : ¬ n < 0) (h4 : sp.toNatClampNeg + n.toNatClampNeg ≤ n0) (h5 : dp.toNatClampNeg + n.toNatClampNeg ≤ n1)
    (ho : ∀ κ : ic_X, ic_cel κ g1 y = .inl (κ.2.2.1 0, n1, .inl (va_cpy f1 f2 sp.toNatClampNeg dp.toNatClampNeg n.toNatClampNeg)) ∧ ∀ z ∈ ic_keys, z ≠ y → ic_cel κ g1 z = ic_cel κ g z) (hg1 : (∀ i, g1.1 40 i = g.1 40 i) ∧ g1.1 41 0 = g.1 41 0) (h : ic_Ev M nx lv st g1 r g') : ic_Ev M pc lv (ic_I n :: ic_I dp :: .inr (.inr (some y)) :: ic_I sp :: .inr (.inr (some x)) :: st) g r g' := by
  intro κ A p l e R s m args below meth c cells slots Q B hc K H locs ls hW hl
  obtain ⟨hx, hb, hml, hown, hts, hfr, hlo, hF, hA, hok⟩ := id B
  obtain ⟨hd1, hd2⟩ := ic_okd_at hok hd
  dsimp only at hd1 hd2
  subst hd2
  obtain ⟨hxk, -, hc1⟩ := ha
  obtain ⟨hyk, -, hc2⟩ := hb0
  obtain ⟨q0, -, hw⟩ := ic_wsk (κ := κ) (g := g) hxk
  obtain ⟨q1, hq1, hw1⟩ := ic_wsk (κ := κ) (g := g) hyk
  rw [hc1] at hw
  rw [hc2] at hw1
  have e3 : ic_sv κ (ic_I n :: ic_I dp :: (.inr (.inr (some y)) : ic_V) :: ic_I sp :: (.inr (.inr (some x)) : ic_V) :: st) = .int n :: .int dp :: .ref (ic_ad κ y) :: .int sp :: .ref (ic_ad κ x) :: ic_sv κ st := by rw [← ic_svk (ic_k26 hxk), ← ic_cvk (κ := κ) (ic_k26 hyk)]; rfl
  rw [e3]
  have hs0 : ((ic_sv κ st).map fun v => v.category).sum ≤ 8 := by
    unfold ic_sv
    rw [List.map_map, show ((fun v : Value => v.category) ∘ ic_cv κ) = ic_cat from funext fun v => ic_cvcat κ v]
    exact hst
  refine va_copyi hx hb (hml.trans hl.1.symm) hown (hts _ hl0) (hts _ hnat.1) (hts _ hnat.2.1) (hts _ hnat.2.2) hF.1 hW.1 hW.2.1 hW.2.2.1 q0 q1 0 0 hw hw1 (ty := .int) rfl rfl rfl h1 h2 h3 h4 h5 (fun _ _ => rfl) (by omega) (by omega) hd1 (fun H1 locs1 hP hD hS => ?_)
  rw [← (ho κ).1, ic_set hq1 (ho κ).2] at hP hD
  exact h κ A p l e R s m args below meth c cells slots Q B hc K H1 locs1 ls ⟨hP, hD, hS, hW.2.2.2.to hg1.1 hg1.2⟩ hl
/-! String constants, the static, the script -/
theorem ev_ldcs {idx : Nat} {tx : String} (i : Nat) (hd : ic_at M a b = some (pc, .ldc idx, 2, nx)) (hM : M.1.cls = "IronCall$Tokens") (hi : ic_str[i]? = some (idx, tx)) (h : ic_Ev M nx lv (ic_R 24 i 0 :: st) g r g') : ic_Ev M pc lv st g r g' := by
  intro κ A p l e R s m args below meth c cells slots Q B hc K H locs ls hW hl
  obtain ⟨hx, hb, hml, hown, hts, hfr, hlo, hF, hA, hok⟩ := id B
  obtain ⟨hd1, hd2⟩ := ic_okd_at hok hd
  dsimp only at hd1 hd2
  subst hd2
  have h2 := h κ A p l e R s m args below meth c cells slots Q B hc K H locs ls hW hl
  rw [ic_svk (show (24 : Nat) ≠ 26 by decide)] at h2
  rw [hM] at hown
  exact va_ldcS hx hb hown (hF.2.2.1 i _ hi) hd1 h2
theorem ev_sval {idx i : Nat} (hi : i < 16) (hd : ic_at M a b = some (pc, .getfield idx, 3, nx)) (hl0 : Cond.fieldLink M.1.cls idx "java/lang/String" "value" "[B" ∈ lw_gd) (h : ic_Ev M nx lv (ic_R 25 i 0 :: st) g r g') : ic_Ev M pc lv (ic_R 24 i 0 :: st) g r g' := by
  intro κ A p l e R s m args below meth c cells slots Q B hc K H locs ls hW hl
  obtain ⟨hx, hb, hml, hown, hts, hfr, hlo, hF, hA, hok⟩ := id B
  obtain ⟨hd1, hd2⟩ := ic_okd_at hok hd
  dsimp only at hd1 hd2
  subst hd2
  have h2 := h κ A p l e R s m args below meth c cells slots Q B hc K H locs ls hW hl
  rw [ic_svk (show (25 : Nat) ≠ 26 by decide)] at h2
  rw [ic_svk (show (24 : Nat) ≠ 26 by decide)]
  exact vk_getf hx hb (hF.2.1.1 i hi).2.2.1 hW.2.2.1 hown (hts _ hl0) (fun _ h9 => h9) hd1 h2
theorem ev_scod {idx i : Nat} (hi : i < 16) (hd : ic_at M a b = some (pc, .getfield idx, 3, nx)) (hl0 : Cond.fieldLink M.1.cls idx "java/lang/String" "coder" "B" ∈ lw_gd) (h : ic_Ev M nx lv (ic_I 0 :: st) g r g') : ic_Ev M pc lv (ic_R 24 i 0 :: st) g r g' := by
  intro κ A p l e R s m args below meth c cells slots Q B hc K H locs ls hW hl
  obtain ⟨hx, hb, hml, hown, hts, hfr, hlo, hF, hA, hok⟩ := id B
  obtain ⟨hd1, hd2⟩ := ic_okd_at hok hd
  dsimp only at hd1 hd2
  subst hd2
  have h2 := h κ A p l e R s m args below meth c cells slots Q B hc K H locs ls hW hl
  rw [ic_svk (show (24 : Nat) ≠ 26 by decide)]
  exact vk_getf hx hb (hF.2.1.1 i hi).2.1 hW.2.2.1 hown (hts _ hl0) (fun _ h9 => h9) hd1 h2
theorem ev_slen {i : Nat} (v : Int32) (hi : i < 16) (hv : Int32.ofNat (ic_slen.getD i 0) = v) (hd : ic_at M a b = some (pc, .arraylength, 1, nx)) (h : ic_Ev M nx lv (ic_I v :: st) g r g') : ic_Ev M pc lv (ic_R 25 i 0 :: st) g r g' := by
  intro κ A p l e R s m args below meth c cells slots Q B hc K H locs ls hW hl
  obtain ⟨hx, hb, hml, hown, hts, hfr, hlo, hF, hA, hok⟩ := id B
  obtain ⟨hd1, hd2⟩ := ic_okd_at hok hd
  dsimp only at hd1 hd2
  subst hd2
  rw [ic_svk (show (25 : Nat) ≠ 26 by decide)]
  exact va_tlen hx hb (hF.2.1.1 i hi).2.2.2 hW.2.2.1 hv hd1 (h κ A p l e R s m args below meth c cells slots Q B hc K H locs ls hW hl)
theorem ev_sbald {i : Nat} {k : Int32} (hi : i < 16) (hk : ic_in k (ic_slen.getD i 0) = true) (hd : ic_at M a b = some (pc, .baload, 1, nx)) (h : ic_Ev M nx lv (ic_I ((ic_sbyt.getD i []).getD k.toNatClampNeg 0) :: st) g r g') : ic_Ev M pc lv (ic_I k :: ic_R 25 i 0 :: st) g r g' := by
  intro κ A p l e R s m args below meth c cells slots Q B hc K H locs ls hW hl
  obtain ⟨hx, hb, hml, hown, hts, hfr, hlo, hF, hA, hok⟩ := id B
  obtain ⟨hd1, hd2⟩ := ic_okd_at hok hd
  dsimp only at hd1 hd2
  subst hd2
  have e3 : ic_sv κ (ic_I k :: ic_R 25 i 0 :: st) = .int k :: .ref (ic_ad κ (25, i, 0)) :: ic_sv κ st := by rw [← ic_svk (show (25 : Nat) ≠ 26 by decide)]; rfl
  rw [e3]
  exact va_tb hx hb (hF.2.1.1 i hi).2.2.2 hW.2.2.1 (ic_inv hk) rfl hd1 (h κ A p l e R s m args below meth c cells slots Q B hc K H locs ls hW hl)
theorem ev_compact {idx : Nat} (hd : ic_at M a b = some (pc, .getstatic idx, 3, nx)) (hl0 : Cond.fieldLink M.1.cls idx "java/lang/String" "COMPACT_STRINGS" "Z" ∈ lw_gd) (h : ic_Ev M nx lv (ic_I 1 :: st) g r g') : ic_Ev M pc lv st g r g' := by
  intro κ A p l e R s m args below meth c cells slots Q B hc K H locs ls hW hl
  obtain ⟨hx, hb, hml, hown, hts, hfr, hlo, hF, hA, hok⟩ := id B
  obtain ⟨hd1, hd2⟩ := ic_okd_at hok hd
  dsimp only at hd1 hd2
  subst hd2
  exact va_gets hx hb hF.2.2.2.1 hW.2.2.1 hown (hts _ hl0) (fun _ h9 => h9) hd1 (h κ A p l e R s m args below meth c cells slots Q B hc K H locs ls hW hl)
theorem ev_mmax {idx : Nat} {x y : Int32} (hd : ic_at M a b = some (pc, .invokestatic idx, 3, nx)) (hl0 : Cond.methodLink M.1.cls idx Lib.Math.max.name ∈ lw_gd) (hm : Cond.static Lib.Math.max.name ∈ lw_gd ∧ Cond.initialized "java/lang/Math" ∈ lw_gd ∧ Cond.code Lib.Math.max.name Lib.Math.max.code 2 (some .int) ∈ lw_gd) (hroom : (Nat.ble 1 M.2.2.2.2.1 && Nat.ble 21 M.2.2.2.2.2.1) = true) (hst : (st.map ic_cat).sum ≤ 8) (h : ic_Ev M nx lv (ic_I (if x < y then y else x) :: st) g r g') : ic_Ev M pc lv (ic_I y :: ic_I x :: st) g r g' := by
  intro κ A p l e R s m args below meth c cells slots Q B hc K H locs ls hW hl
  obtain ⟨hx, hb, hml, hown, hts, hfr, hlo, hF, hA, hok⟩ := id B
  obtain ⟨hd1, hd2⟩ := ic_okd_at hok hd
  dsimp only at hd1 hd2
  subst hd2
  rw [Bool.and_eq_true] at hroom
  have r1 := Nat.le_of_ble_eq_true hroom.1
  have r2 := Nat.le_of_ble_eq_true hroom.2
  have hs0 : ((ic_sv κ st).map fun v => v.category).sum ≤ 8 := by
    unfold ic_sv
    rw [List.map_map, show ((fun v : Value => v.category) ∘ ic_cv κ) = ic_cat from funext fun v => ic_cvcat κ v]
    exact hst
  exact va_mmax (rest := ic_sv κ st) hx hb (hml.trans hl.1.symm) hown (hts _ hl0) (hts _ hm.1) (hts _ hm.2.1) (hts _ hm.2.2) (by omega) (by omega) hc.1 hc.2 hd1 (h κ A p l e R s m args below meth c cells slots Q B hc K H locs ls hW hl)
theorem ev_mmin {idx : Nat} {x y : Int32} (hd : ic_at M a b = some (pc, .invokestatic idx, 3, nx)) (hl0 : Cond.methodLink M.1.cls idx Lib.Math.min.name ∈ lw_gd) (hm : Cond.static Lib.Math.min.name ∈ lw_gd ∧ Cond.initialized "java/lang/Math" ∈ lw_gd ∧ Cond.code Lib.Math.min.name Lib.Math.min.code 2 (some .int) ∈ lw_gd) (hroom : (Nat.ble 1 M.2.2.2.2.1 && Nat.ble 21 M.2.2.2.2.2.1) = true) (hst : (st.map ic_cat).sum ≤ 8) (h : ic_Ev M nx lv (ic_I (if y < x then y else x) :: st) g r g') : ic_Ev M pc lv (ic_I y :: ic_I x :: st) g r g' := by
  intro κ A p l e R s m args below meth c cells slots Q B hc K H locs ls hW hl
  obtain ⟨hx, hb, hml, hown, hts, hfr, hlo, hF, hA, hok⟩ := id B
  obtain ⟨hd1, hd2⟩ := ic_okd_at hok hd
  dsimp only at hd1 hd2
  subst hd2
  rw [Bool.and_eq_true] at hroom
  have r1 := Nat.le_of_ble_eq_true hroom.1
  have r2 := Nat.le_of_ble_eq_true hroom.2
  have hs0 : ((ic_sv κ st).map fun v => v.category).sum ≤ 8 := by
    unfold ic_sv
    rw [List.map_map, show ((fun v : Value => v.category) ∘ ic_cv κ) = ic_cat from funext fun v => ic_cvcat κ v]
    exact hst
  exact va_mmin (rest := ic_sv κ st) hx hb (hml.trans hl.1.symm) hown (hts _ hl0) (hts _ hm.1) (hts _ hm.2.1) (hts _ hm.2.2) (by omega) (by omega) hc.1 hc.2 hd1 (h κ A p l e R s m args below meth c cells slots Q B hc K H locs ls hW hl)
theorem ev_mabs {idx : Nat} {x : Int32} (hd : ic_at M a b = some (pc, .invokestatic idx, 3, nx)) (hl0 : Cond.methodLink M.1.cls idx Lib.Math.abs.name ∈ lw_gd) (hm : Cond.static Lib.Math.abs.name ∈ lw_gd ∧ Cond.initialized "java/lang/Math" ∈ lw_gd ∧ Cond.code Lib.Math.abs.name Lib.Math.abs.code 1 (some .int) ∈ lw_gd) (hroom : (Nat.ble 1 M.2.2.2.2.1 && Nat.ble 21 M.2.2.2.2.2.1) = true) (hst : (st.map ic_cat).sum ≤ 8) (h : ic_Ev M nx lv (ic_I (if 0 ≤ x then x else 0 - x) :: st) g r g') : ic_Ev M pc lv (ic_I x :: st) g r g' := by
  intro κ A p l e R s m args below meth c cells slots Q B hc K H locs ls hW hl
  obtain ⟨hx, hb, hml, hown, hts, hfr, hlo, hF, hA, hok⟩ := id B
  obtain ⟨hd1, hd2⟩ := ic_okd_at hok hd
  dsimp only at hd1 hd2
  subst hd2
  rw [Bool.and_eq_true] at hroom
  have r1 := Nat.le_of_ble_eq_true hroom.1
  have r2 := Nat.le_of_ble_eq_true hroom.2
  have hs0 : ((ic_sv κ st).map fun v => v.category).sum ≤ 8 := by
    unfold ic_sv
    rw [List.map_map, show ((fun v : Value => v.category) ∘ ic_cv κ) = ic_cat from funext fun v => ic_cvcat κ v]
    exact hst
  exact va_mabs (rest := ic_sv κ st) hx hb (hml.trans hl.1.symm) hown (hts _ hl0) (hts _ hm.1) (hts _ hm.2.1) (hts _ hm.2.2) (by omega) (by omega) hc.1 hc.2 hd1 (h κ A p l e R s m args below meth c cells slots Q B hc K H locs ls hW hl)
theorem ev_fmt {idx : Nat} (hd : ic_at M a b = some (pc, .getstatic idx, 3, nx)) (hl0 : Cond.fieldLink M.1.cls idx "jdk/internal/util/Preconditions" "SIOOBE_FORMATTER" "Ljava/util/function/BiFunction;" ∈ lw_gd) (h : ic_Ev M nx lv (ic_R 26 0 0 :: st) g r g') : ic_Ev M pc lv st g r g' := by
  intro κ A p l e R s m args below meth c cells slots Q B hc K H locs ls hW hl
  obtain ⟨hx, hb, hml, hown, hts, hfr, hlo, hF, hA, hok⟩ := id B
  obtain ⟨hd1, hd2⟩ := ic_okd_at hok hd
  dsimp only at hd1 hd2
  subst hd2
  exact va_gets hx hb hF.2.2.2.2.1 hW.2.2.1 hown (hts _ hl0) (fun _ h9 => h9) hd1 (h κ A p l e R s m args below meth c cells slots Q B hc K H locs ls hW hl)
theorem ev_xlen (hd : ic_at M a b = some (pc, .arraylength, 1, nx)) (h : ic_Ev M nx lv (ic_I (g.1 41 0) :: st) g r g') : ic_Ev M pc lv (ic_R 27 0 0 :: st) g r g' := by
  intro κ A p l e R s m args below meth c cells slots Q B hc K H locs ls hW hl
  obtain ⟨hx, hb, hml, hown, hts, hfr, hlo, hF, hA, hok⟩ := id B
  obtain ⟨hd1, hd2⟩ := ic_okd_at hok hd
  dsimp only at hd1 hd2
  subst hd2
  obtain ⟨L, xs, hX, hxs, hL, hbl, hbA⟩ := hW.2.2.2
  have h2 := h κ A p l e R s m args below meth c cells slots Q B hc K H locs ls hW hl
  rw [← hL] at h2
  rw [ic_svk (show (27 : Nat) ≠ 26 by decide)]
  exact va_slen hx hb hX hbl hbA hW.2.2.1 hd1 h2
theorem ev_xald {i : Int32} (hi : 0 ≤ i.toInt ∧ i.toInt < (g.1 41 0).toInt) (hd : ic_at M a b = some (pc, .iaload, 1, nx)) (h : ic_Ev M nx lv (ic_I (g.1 40 i.toNatClampNeg) :: st) g r g') : ic_Ev M pc lv (ic_I i :: ic_R 27 0 0 :: st) g r g' := by
  intro κ A p l e R s m args below meth c cells slots Q B hc K H locs ls hW hl
  obtain ⟨hx, hb, hml, hown, hts, hfr, hlo, hF, hA, hok⟩ := id B
  obtain ⟨hd1, hd2⟩ := ic_okd_at hok hd
  dsimp only at hd1 hd2
  subst hd2
  obtain ⟨L, xs, hX, hxs, hL, hbl, hbA⟩ := hW.2.2.2
  have h2 := h κ A p l e R s m args below meth c cells slots Q B hc K H locs ls hW hl
  have hlt : i.toNatClampNeg < L := by
    have hm : (Int32.ofNat L).toInt ≤ (L : Int) := by
      rw [Int32.toInt_ofNat', show Int32.size = 4294967296 from rfl, Int.bmod_eq_emod]; split <;> omega
    rw [← hL] at hi
    show i.toInt.toNat < L
    omega
  have hin : vp_in i L := vp_in_iff.mpr ⟨hi.1, by have e : i.toNatClampNeg = i.toInt.toNat := rfl; omega⟩
  rw [← hxs _ hlt] at h2
  have e3 : ic_sv κ (ic_I i :: ic_R 27 0 0 :: st) = .int i :: .ref (ic_ad κ (27, 0, 0)) :: ic_sv κ st := by rw [← ic_svk (show (27 : Nat) ≠ 26 by decide)]; rfl
  rw [e3]
  exact va_sld hx hb hX hbl hbA hW.2.2.1 hin hd1 h2
end IC2
end
section
/-! calls -/
def ic_A (κ : ic_X) : Nat → Prop := fun q => ∃ x ∈ ic_keys, q = ic_ad κ x
def ic_Y (κ : ic_X) (g : ic_S) (U : State) : Prop := ic_F κ (ic_A κ) U ∧ va_P κ.2.1 ic_cls (ic_ws κ g) U.heap ∧ va_D (ic_A κ) (ic_ws κ g) ∧ ic_G κ (ic_A κ) g U
def ic_Qc (κ : ic_X) (v : Option ic_V) (g' : ic_S) : Array Value → State → Outcome → State → Prop := fun _ st oc t =>
  oc = .returned (v.map (ic_cv κ)) ∧ (va_P κ.2.1 ic_cls (ic_ws κ g') t.heap ∧ va_D (ic_A κ) (ic_ws κ g') ∧ ic_G κ (ic_A κ) g' st) ∧ va_F (ic_A κ) st t
theorem ic_F.to {κ : ic_X} {A B : Nat → Prop} {s U : State} {H : Heap} {locs : List Loc} (h : ic_F κ A s) (hS : va_S A s.heap H locs) (hU : U.heap = H) (hW : s.WarmedH U.vm) (hAB : ∀ q, B q → A q) : ic_F κ B U := by
  obtain ⟨h1, h2, h3, h4, h6, h5⟩ := h
  refine ⟨h1.moved hW.alike, ?_, fun i q hq => vk_R.warm hW (h3 i q hq), ?_, ?_, fun q hq => va_Nw.warmM hW (h5 q hq)⟩
  · rw [hU]
    exact ((h2.kept hS.2.1).moved hW.alike).narrow hAB
  · rw [hU]
    exact ((h4.kept hS.2.1).moved hW.alike).narrow hAB
  · rw [hU]
    exact ((h6.kept hS.2.1).moved hW.alike).narrow hAB
theorem ic_G.at {κ : ic_X} {A B : Nat → Prop} {g : ic_S} {s U : State} {H : Heap} {locs : List Loc} (h : ic_G κ A g s) (hS : va_S A s.heap H locs) (hU : U.heap = H) (hW : s.vm.Alike U.vm) (hAB : ∀ q, B q → A q) : ic_G κ B g U := by
  obtain ⟨L, xs, a1, a2, a3, a4, a5⟩ := h
  refine ⟨L, xs, ?_, a2, a3, ?_, fun z => a5 (hAB _ z)⟩
  · rw [hU]
    exact (a1.kept (hS.2.1 _ a4 a5)).moved hW
  · rw [hU]
    exact Nat.lt_of_lt_of_le a4 hS.1
theorem ic_G.back {κ : ic_X} {A B : Nat → Prop} {g g' : ic_S} {s U : State} {H : Heap} {locs : List Loc} (h : ic_G κ A g s) (hS : va_S A s.heap H locs) (hU : U.heap = H) (h2 : ic_G κ B g' U) : ic_G κ A g' s := by
  obtain ⟨L, xs, ⟨scr, b1, b2, b3, b4, b5⟩, a2, a3, a4, a5⟩ := h
  obtain ⟨L', xs', ⟨scr', c1, c2, c3, c4, c5⟩, d2, d3, d4, d5⟩ := h2
  rw [hU, hS.2.1 _ a4 a5, b1] at c1
  cases c1
  have hL : L' = L := c4.symm.trans b4
  subst hL
  refine ⟨L', xs, ⟨scr, b1, b2, b3, b4, b5⟩, fun j hj => ?_, d3, a4, a5⟩
  have e1 := (b5 j hj).symm.trans (c5 j hj)
  rw [← d2 j hj]
  exact Value.int.inj (Option.some.inj e1)
theorem ic_wsD {κ : ic_X} {A B : Nat → Prop} {g : ic_S} (h : va_D A (ic_ws κ g)) (hB : ∀ x ∈ ic_keys, B (ic_ad κ x)) : va_D B (ic_ws κ g) := by
  refine h.weaken fun k q hq _ => ?_
  obtain ⟨x, hx, e⟩ := List.mem_map.mp (List.mem_of_getElem? hq)
  rw [← e]
  exact hB x hx
theorem ic_Y.of {κ : ic_X} {A : Nat → Prop} {g : ic_S} {s U : State} {H : Heap} {locs : List Loc} (hF : ic_F κ A s) (hW : ic_W κ A g s H locs) (hA : ∀ x ∈ ic_keys, A (ic_ad κ x)) (hU : U.heap = H) (hv : s.WarmedH U.vm) : ic_Y κ g U := by
  have hAB : ∀ q, ic_A κ q → A q := fun q ⟨x, hx, e⟩ => by rw [e]; exact hA x hx
  refine ⟨hF.to hW.2.2.1 hU hv hAB, by rw [hU]; exact hW.1, ic_wsD hW.2.1 fun x hx => ⟨x, hx, rfl⟩, hW.2.2.2.at hW.2.2.1 hU hv.alike hAB⟩
theorem ic_Y.blind {κ : ic_X} {g : ic_S} {av : List Value} : FrameBlind (va_Pc av (ic_Y κ g)) := by
  intro a U f mk h
  obtain ⟨h0, ⟨h1, h2, h3, h4, h6, h5⟩, hP, hD, L, xs, a1, a2⟩ := h
  refine ⟨h0, ⟨va_K.moved (u := U) (U := U.calling f mk a) (Vm.Alike.refl U.vm) h1, vk_S.moved (u := U) (U := U.calling f mk a) (Vm.Alike.refl U.vm) h2, fun i q hq => vk_R.same (u := U) (U := U.calling f mk a) rfl (h3 i q hq), va_Z.moved (u := U) (U := U.calling f mk a) (Vm.Alike.refl U.vm) h4, va_Z.moved (u := U) (U := U.calling f mk a) (Vm.Alike.refl U.vm) h6, fun q hq => va_Nw.same (u := U) (U := U.calling f mk a) rfl rfl (h5 q hq)⟩, hP, hD, L, xs, va_X.moved (u := U) (U := U.calling f mk a) (Vm.Alike.refl U.vm) a1, a2⟩
def ic_ag : Nat → List ic_V → ic_L
  | _, [] => []
  | i, v :: vs => (i, v) :: ic_ag (i + ic_cat v) vs
theorem ic_cat12 (v : ic_V) : ic_cat v = 1 ∨ ic_cat v = 2 := by
  rcases v with x | x | o
  · exact Or.inl rfl
  · exact Or.inr rfl
  · exact Or.inl rfl
theorem ic_ag_eq (κ : ic_X) : ∀ (as : List ic_V) (i : Nat), ic_lv κ (ic_ag i as) = lv_args i (as.map (ic_cv κ))
  | [], _ => rfl
  | v :: vs, i => by
    show (i, ic_cv κ v) :: ic_lv κ (ic_ag (i + ic_cat v) vs) = (i, ic_cv κ v) :: lv_args (if (ic_cv κ v).category = 2 then i + 2 else i + 1) (vs.map (ic_cv κ))
    rw [ic_ag_eq κ vs, ic_cvcat]
    rcases ic_cat12 v with e | e <;> rw [e] <;> rfl
theorem ic_slw (κ : ic_X) : ∀ as : List ic_V, (lg_sl (as.map (ic_cv κ))).length = (as.map ic_cat).sum
  | [] => rfl
  | v :: vs => by
    have ih := ic_slw κ vs
    unfold lg_sl at ih ⊢
    rw [List.map_cons, List.flatMap_cons, List.length_append, List.map_cons, List.sum_cons, ih, ic_cvcat]
    rcases ic_cat12 v with e | e <;> rw [e] <;> rfl
abbrev ic_rm (M : ic_M) : Room := { frames := M.2.2.2.2.1, cells := 0, slots := 0, locals := M.2.2.2.2.2.1 }
abbrev ic_wd (M : ic_M) : List Cond := Cond.code M.1 M.2.1 M.2.2.1 M.2.2.2.1 :: lw_gd
theorem ic_met {M : ic_M} {as : List ic_V} {g g' : ic_S} {r : Option ic_V} (hok : ic_okd M = true) (hpl : plainName M.1.cls = true) (hn : (as.map ic_cat).sum ≤ M.2.2.1) (h : ic_Ev M 0 (ic_ag 0 as) [] g r g') (κ : ic_X) (l : Launch) :
    Met l M.1 (ic_wd M) (ic_rm M) (va_Pc (as.map (ic_cv κ)) (ic_Y κ g)) (ic_Qc κ r g') 0 0 (ic_A κ) := by
  refine Met.ofW (cc := M.2.1) (maxL := M.2.2.1) (ret := M.2.2.2.1) hpl rfl ?_
  intro p e s m args below meth c s₁ B hml hv
  obtain ⟨rfl, hF, hP, hD, hG⟩ := hv
  have hx := B.exec
  have hb := B.bytes
  have hr := B.returns
  have hts := atoms_spec (ws := ic_wd M) B.pre
  have hown : s.vm.findClass M.1.cls = some m.cls := findClass_of_methodNamed B.named
  have hlocks := B.notSynchronized
  have hl := lv_entry (as.map (ic_cv κ)) (n := M.2.2.1) (by rw [ic_slw]; exact hn)
  rw [lg_entry_eq]
  refine h κ (ic_A κ) p l e _ s m _ below meth c 0 0 _ ⟨hx, hb, hml, hown, fun w hw => hts w (List.mem_cons_of_mem _ hw), Nat.le_refl _, Nat.le_refl _, hF, fun x hx => ⟨x, hx, rfl⟩, hok⟩ ⟨Nat.zero_le _, Nat.zero_le _⟩ ?_ s.heap [] _ ⟨hP, hD, va_S.rf, hG⟩ (by rw [ic_ag_eq]; exact hl)
  intro H locs pc1 ls hR hW
  obtain ⟨hP1, hD1, hS1, hG1⟩ := hW
  rcases r with _ | v | v | o
  · exact W.vret hx hb (by rw [hr]; exact hR.2) (fun t ht _ => ⟨rfl, ⟨by rw [ht]; exact hP1, hD1, hG1⟩, hS1.F ht⟩) hS1.2.2 hR.1 hlocks
  · obtain ⟨h1, ty, h2, h3⟩ := hR
    exact W.zret hx hb (by rw [hr]; exact h2) h3 (fun t ht _ => ⟨rfl, ⟨by rw [ht]; exact hP1, hD1, hG1⟩, hS1.F ht⟩) hS1.2.2 h1 hlocks
  · exact W.lret hx hb (by rw [hr]; exact hR.2) (fun t ht _ => ⟨rfl, ⟨by rw [ht]; exact hP1, hD1, hG1⟩, hS1.F ht⟩) hS1.2.2 hR.1 hlocks
  · obtain ⟨h1, rt, h2, h3⟩ := hR
    exact W.aret hx hb (by rw [hr]; exact h2) h3 (ic_cvnr κ o) (fun t ht _ => ⟨rfl, ⟨by rw [ht]; exact hP1, hD1, hG1⟩, hS1.F ht⟩) hS1.2.2 h1 hlocks
section ICR
variable {p : Program} {l : Launch} {e : Env} {R : Room} {s : State} {m : MethodId} {args : Array Value} {below : List Frame} {meth : Method} {c : Code} {H : Heap} {locs : List Loc} {cells slots : Nat} {Q : State → Prop}
theorem ic_run {κ : ic_X} {A : Nat → Prop} {g g1 : ic_S} {v : Option ic_V} {pc : Nat} {ls : Array Slot} {st0 rest : List Value} {a : Array Value} (hr : va_Run p l e R s m args below meth c H locs cells slots 0 0 (F0 m pc ls st0) rest (ic_Qc κ v g1 a) (ic_A κ)) (hW : ic_W κ A g s H locs) (hA : ∀ x ∈ ic_keys, A (ic_ad κ x))
    (kk : ∀ (H1 : Heap) (locs1 : List Loc), ic_W κ A g1 s H1 locs1 → W p l e R s m args below meth c H1 locs1 cells slots Q (F0 m (pc + 3) ls ((v.map (ic_cv κ)).toList ++ rest))) : W p l e R s m args below meth c H locs cells slots Q (F0 m pc ls st0) := by
  intro T hT X
  obtain ⟨v', st₀, t, T', L, h0, X', hL, e1, e2, ⟨hv, ⟨hP, hD, hG⟩, hz, hk⟩, st⟩ := hr T hT X
  cases hv
  rw [h0] at hz hk
  obtain ⟨hP0, hD0, hS, hG0⟩ := hW
  have hA' : ∀ q, ic_A κ q → A q := fun q ⟨x, hx, e⟩ => by rw [e]; exact hA x hx
  have hS1 : va_S A s.heap T'.heap (locs ++ L) := ⟨Nat.le_trans hS.1 (by rw [e1]; exact hz), fun q h1 h2 => by rw [e1, hk q (Nat.lt_of_lt_of_le h1 hS.1) (fun z => h2 (hA' q z))]; exact hS.2.1 q h1 h2, fun q hq => by
      rcases List.mem_append.mp hq with h | h
      · exact hS.2.2 q h
      · exact hA' _ (hL q h)⟩
  obtain ⟨t2, a1, b1⟩ := kk T'.heap (locs ++ L) ⟨by rw [e1]; exact hP, ic_wsD hD hA, hS1, hG0.back hS h0 hG⟩ T' rfl X'
  exact ⟨t2, st t2 a1, b1⟩
end ICR
def ic_ok0 (N : ic_M) (n : Nat) : Prop := ic_okd N = true ∧ plainName N.1.cls = true ∧ Cond.code N.1 N.2.1 N.2.2.1 N.2.2.2.1 ∈ lw_gd ∧ Cond.initialized N.1.cls ∈ lw_gd ∧ N.1.cls ≠ "java/lang/invoke/MethodHandle" ∧ N.1.cls ≠ "java/lang/invoke/VarHandle" ∧ (parseMethodDescriptor N.1.desc).map (fun d => d.parameters.length) = some n
def ic_okv (N : ic_M) (n : Nat) : Prop := ic_ok0 N n ∧ Cond.instanceMethod N.1 ∈ lw_gd ∧ Cond.selects N.1.cls N.1 N.1 ∈ lw_gd
def ic_oks (N : ic_M) (n : Nat) : Prop := ic_ok0 N n ∧ Cond.static N.1 ∈ lw_gd
def ic_rom (M N : ic_M) : Bool := Nat.ble (N.2.2.2.2.1 + 1) M.2.2.2.2.1 && Nat.ble (8 + (N.2.2.1 + 11) + N.2.2.2.2.2.1) M.2.2.2.2.2.1
theorem ic_rom_at {M N : ic_M} (h : ic_rom M N = true) {R : Room} (h1 : M.2.2.2.2.1 ≤ R.frames) (h2 : M.2.2.2.2.2.1 ≤ R.locals) : N.2.2.2.2.1 + 1 ≤ R.frames ∧ 8 + (N.2.2.1 + 11) + N.2.2.2.2.2.1 ≤ R.locals := by
  unfold ic_rom at h
  rw [Bool.and_eq_true] at h
  exact ⟨Nat.le_trans (Nat.le_of_ble_eq_true h.1) h1, Nat.le_trans (Nat.le_of_ble_eq_true h.2) h2⟩
theorem ic_goodwd {N : ic_M} (h : Cond.code N.1 N.2.1 N.2.2.1 N.2.2.2.1 ∈ lw_gd) : GoodIn lw_gd (ic_wd N) := fun w hw => by
  rcases List.mem_cons.mp hw with rfl | hw
  · exact lw_gd_good _ h
  · exact lw_gd_good w hw
/-- the receiver's cell -/
def ic_rc (C : String) (x : ic_K) : Prop := (∃ (ci : Nat) (T : u_T) (n : Nat), ic_cls[ci]? = some (C, T, n) ∧ x ∈ ic_keys ∧ ∀ (κ : ic_X) (g : ic_S), ∃ fs, ic_cel κ g x = .inr (ci, fs)) ∨ (C = "java/lang/String" ∧ ∃ i, i < 16 ∧ x = (24, i, 0))
theorem ic_rc_at {C : String} {x : ic_K} (h : ic_rc C x) {κ : ic_X} {A : Nat → Prop} {g : ic_S} {s : State} {H : Heap} {locs : List Loc} (hF : ic_F κ A s) (hW : ic_W κ A g s H locs) : x.1 ≠ 26 ∧ ∃ cell : Cell, H[ic_ad κ x]? = some cell ∧ cell.vm.isStatics = false ∧ s.vm.findClass C = some cell.cls := by
  rcases h with ⟨ci, T, n, hc, hx, hcel⟩ | ⟨rfl, i, hi, rfl⟩
  · obtain ⟨fs, hfs⟩ := hcel κ g
    obtain ⟨q0, -, hw⟩ := ic_wsk (κ := κ) (g := g) hx
    rw [hfs] at hw
    exact ⟨ic_k26 hx, va_recv hF.1 hW.1 hc hw⟩
  · exact ⟨(show (24 : Nat) ≠ 26 by decide), vk_recv (adK := fun i => κ.1 24 i 0) (i := i) hF.2.1 hi hW.2.2.1⟩
theorem ic_svcat (κ : ic_X) (st : List ic_V) : ((ic_sv κ st).map fun v => v.category).sum = (st.map ic_cat).sum := by
  unfold ic_sv
  rw [List.map_map, show ((fun v : Value => v.category) ∘ ic_cv κ) = ic_cat from funext fun v => ic_cvcat κ v]
section IC3
variable {M : ic_M} {pc nx : Nat} {lv lv' : ic_L} {st stk : List ic_V} {g g1 g' : ic_S} {r : Option ic_V} {a b : Nat}
theorem ev_iv {N : ic_M} {idx n : Nat} {x : ic_K} (as : List ic_V) {v : Option ic_V} (hd : ic_at M a b = some (pc, .invokevirtual idx, 3, nx)) (hN : ic_okv N n) (hn : as.length = n) (hl0 : Cond.methodLink M.1.cls idx N.1 ∈ lw_gd) (hroom : ic_rom M N = true) (hrc : ic_rc N.1.cls x) (hnl : (((.inr (.inr (some x)) : ic_V) :: as).map ic_cat).sum ≤ N.2.2.1) (he : ic_Ev N 0 (ic_ag 0 ((.inr (.inr (some x)) : ic_V) :: as)) [] g v g1) (hst : (st.map ic_cat).sum ≤ 8) (hsk : stk = as.reverse ++ (.inr (.inr (some x)) : ic_V) :: st) (h : ic_Ev M nx lv (v.toList ++ st) g1 r g') : ic_Ev M pc lv stk g r g' := by
  intro κ A p l e R s m args below meth c cells slots Q B hc K H locs ls hW hl
  obtain ⟨hx, hb, hml, hown, hts, hfr, hlo, hF, hA, hok⟩ := id B
  obtain ⟨hd1, hd2⟩ := ic_okd_at hok hd
  dsimp only at hd1 hd2
  subst hd2
  subst hsk
  obtain ⟨⟨hN0, hN1, hN2, hN3, hN4, hN5, hN6⟩, hi1, hi2⟩ := hN
  obtain ⟨hx26, hcell⟩ := ic_rc_at hrc hF hW
  have hM := ic_met hN0 hN1 hnl he κ l
  have e9 : (((.inr (.inr (some x)) : ic_V) :: as).map (ic_cv κ)) = Value.ref (ic_ad κ x) :: as.map (ic_cv κ) := by rw [List.map_cons, ic_cvk hx26]
  rw [e9] at hM
  have hcw : CallW R s args M.1.cls N.1.cls idx N.1 N.2.1 N.2.2.1 N.2.2.2.1 (ic_wd N) (ic_rm N) 0 0 n := ⟨callB_of n hts (ic_goodwd hN2) rfl rfl rfl (hts _ hN3) (hts _ hl0) ⟨hN4, hN5, hN6⟩ (ic_rom_at hroom hfr hlo), hts _ hi1, hts _ hi2⟩
  refine ic_run (va_runV (As := as.map (ic_cv κ)) (b := ic_ad κ x) (rest := ic_sv κ st) (Ts := lw_gd) ⟨hx, hb, hml, hown, hts⟩ hM hcw ⟨ic_Y.blind, hcell, fun U hU hv => ⟨rfl, ic_Y.of hF hW hA hU hv⟩⟩ rfl (by rw [List.length_map]; exact hn) hl.1 ?_ (lv_room (by rw [ic_svcat]; exact hst)) hd1 ⟨by omega, by omega⟩) hW hA (fun H1 locs1 hW1 => ?_)
  · show ic_sv κ (as.reverse ++ _ :: st) = _
    unfold ic_sv
    rw [List.map_append, List.map_cons, ic_cvk hx26, List.map_reverse]
  · have h2 := h κ A p l e R s m args below meth c cells slots Q B hc K H1 locs1 ls hW1 hl
    have e8 : ic_sv κ (v.toList ++ st) = (v.map (ic_cv κ)).toList ++ ic_sv κ st := by cases v <;> rfl
    rw [e8] at h2
    exact h2
theorem ev_is {N : ic_M} {idx n : Nat} (as : List ic_V) {v : Option ic_V} (hd : ic_at M a b = some (pc, .invokestatic idx, 3, nx)) (hN : ic_oks N n) (hn : as.length = n) (hl0 : Cond.methodLink M.1.cls idx N.1 ∈ lw_gd) (hroom : ic_rom M N = true) (hnl : (as.map ic_cat).sum ≤ N.2.2.1) (he : ic_Ev N 0 (ic_ag 0 as) [] g v g1) (hst : (st.map ic_cat).sum ≤ 8) (hsk : stk = as.reverse ++ st) (h : ic_Ev M nx lv (v.toList ++ st) g1 r g') : ic_Ev M pc lv stk g r g' := by
  intro κ A p l e R s m args below meth c cells slots Q B hc K H locs ls hW hl
  obtain ⟨hx, hb, hml, hown, hts, hfr, hlo, hF, hA, hok⟩ := id B
  obtain ⟨hd1, hd2⟩ := ic_okd_at hok hd
  dsimp only at hd1 hd2
  subst hd2
  subst hsk
  obtain ⟨⟨hN0, hN1, hN2, hN3, hN4, hN5, hN6⟩, hi1⟩ := hN
  have hM := ic_met hN0 hN1 hnl he κ l
  have hcw : CallB R s args M.1.cls idx N.1 N.2.1 N.2.2.1 N.2.2.2.1 (ic_wd N) (ic_rm N) 0 0 n ∧ (Cond.static N.1).before args s = true := ⟨callB_of n hts (ic_goodwd hN2) rfl rfl rfl (hts _ hN3) (hts _ hl0) ⟨hN4, hN5, hN6⟩ (ic_rom_at hroom hfr hlo), hts _ hi1⟩
  refine ic_run (va_runS (As := as.map (ic_cv κ)) (rest := ic_sv κ st) (Ts := lw_gd) ⟨hx, hb, hml, hown, hts⟩ hM hcw ⟨ic_Y.blind, fun U hU hv => ⟨rfl, ic_Y.of hF hW hA hU hv⟩⟩ rfl (by rw [List.length_map]; exact hn) hl.1 ?_ (lv_room (by rw [ic_svcat]; exact hst)) hd1 ⟨by omega, by omega⟩) hW hA (fun H1 locs1 hW1 => ?_)
  · show ic_sv κ (as.reverse ++ st) = _
    unfold ic_sv
    rw [List.map_append, List.map_reverse]
  · have h2 := h κ A p l e R s m args below meth c cells slots Q B hc K H1 locs1 ls hW1 hl
    have e8 : ic_sv κ (v.toList ++ st) = (v.map (ic_cv κ)).toList ++ ic_sv κ st := by cases v <;> rfl
    rw [e8] at h2
    exact h2
theorem ev_isn {N : ic_M} {idx n : Nat} {host : String} (as : List ic_V) {v : Option ic_V} (hd : ic_at M a b = some (pc, .invokestatic idx, 3, nx)) (hN : ic_oks N n) (hn : as.length = n) (hl0 : (M.1.cls, idx, N.1, host) ∈ ic_nst) (hroom : ic_rom M N = true) (hnl : (as.map ic_cat).sum ≤ N.2.2.1) (he : ic_Ev N 0 (ic_ag 0 as) [] g v g1) (hst : (st.map ic_cat).sum ≤ 8) (hsk : stk = as.reverse ++ st) (h : ic_Ev M nx lv (v.toList ++ st) g1 r g') : ic_Ev M pc lv stk g r g' := by
  intro κ A p l e R s m args below meth c cells slots Q B hc K H locs ls hW hl
  obtain ⟨hx, hb, hml, hown, hts, hfr, hlo, hF, hA, hok⟩ := id B
  obtain ⟨hd1, hd2⟩ := ic_okd_at hok hd
  dsimp only at hd1 hd2
  subst hd2
  subst hsk
  obtain ⟨⟨hN0, hN1, hN2, hN3, hN4, hN5, hN6⟩, hi1⟩ := hN
  have hM := ic_met hN0 hN1 hnl he κ l
  have hcw : va_CN R s args M.1.cls idx N.1 host N.2.1 N.2.2.1 N.2.2.2.1 (ic_wd N) (ic_rm N) 0 0 n ∧ (Cond.static N.1).before args s = true ∧ True := ⟨va_cnB n hts (ic_goodwd hN2) rfl rfl rfl (hF.2.2.2.2.2 _ hl0) (hts _ hN3) ⟨hN4, hN5, hN6⟩ (ic_rom_at hroom hfr hlo), hts _ hi1, trivial⟩
  refine ic_run (va_runSN (As := as.map (ic_cv κ)) (rest := ic_sv κ st) (Ts := lw_gd) ⟨hx, hb, hml, hown, hts⟩ hM hcw ⟨ic_Y.blind, fun U hU hv => ⟨rfl, ic_Y.of hF hW hA hU hv⟩⟩ rfl (by rw [List.length_map]; exact hn) hl.1 ?_ (lv_room (by rw [ic_svcat]; exact hst)) hd1 ⟨by omega, by omega⟩) hW hA (fun H1 locs1 hW1 => ?_)
  · show ic_sv κ (as.reverse ++ st) = _
    unfold ic_sv
    rw [List.map_append, List.map_reverse]
  · have h2 := h κ A p l e R s m args below meth c cells slots Q B hc K H1 locs1 ls hW1 hl
    have e8 : ic_sv κ (v.toList ++ st) = (v.map (ic_cv κ)).toList ++ ic_sv κ st := by cases v <;> rfl
    rw [e8] at h2
    exact h2
end IC3

section IC4
variable {M : ic_M} {pc nx : Nat} {lv lv' : ic_L} {st stk : List ic_V} {g g1 g' : ic_S} {r : Option ic_V} {a b : Nat}
theorem ev_ivI {N : ic_M} {idx n : Nat} {x : ic_K} (as : List ic_V) {v : Int32} (hd : ic_at M a b = some (pc, .invokevirtual idx, 3, nx)) (hN : ic_okv N n) (hn : as.length = n) (hl0 : Cond.methodLink M.1.cls idx N.1 ∈ lw_gd) (hroom : ic_rom M N = true) (hrc : ic_rc N.1.cls x) (hnl : (((.inr (.inr (some x)) : ic_V) :: as).map ic_cat).sum ≤ N.2.2.1) (he : ic_Ev N 0 (ic_ag 0 ((.inr (.inr (some x)) : ic_V) :: as)) [] g (some (ic_I v)) g1) (hst : (st.map ic_cat).sum ≤ 8) (hsk : stk = as.reverse ++ (.inr (.inr (some x)) : ic_V) :: st) (h : ic_Ev M nx lv (ic_I v :: st) g1 r g') : ic_Ev M pc lv stk g r g' := ev_iv as hd hN hn hl0 hroom hrc hnl he hst hsk h
theorem ev_isI {N : ic_M} {idx n : Nat} (as : List ic_V) {v : Int32} (hd : ic_at M a b = some (pc, .invokestatic idx, 3, nx)) (hN : ic_oks N n) (hn : as.length = n) (hl0 : Cond.methodLink M.1.cls idx N.1 ∈ lw_gd) (hroom : ic_rom M N = true) (hnl : (as.map ic_cat).sum ≤ N.2.2.1) (he : ic_Ev N 0 (ic_ag 0 as) [] g (some (ic_I v)) g1) (hst : (st.map ic_cat).sum ≤ 8) (hsk : stk = as.reverse ++ st) (h : ic_Ev M nx lv (ic_I v :: st) g1 r g') : ic_Ev M pc lv stk g r g' := ev_is as hd hN hn hl0 hroom hnl he hst hsk h
theorem ev_ivJ {N : ic_M} {idx n : Nat} {x : ic_K} (as : List ic_V) {v : Int64} (hd : ic_at M a b = some (pc, .invokevirtual idx, 3, nx)) (hN : ic_okv N n) (hn : as.length = n) (hl0 : Cond.methodLink M.1.cls idx N.1 ∈ lw_gd) (hroom : ic_rom M N = true) (hrc : ic_rc N.1.cls x) (hnl : (((.inr (.inr (some x)) : ic_V) :: as).map ic_cat).sum ≤ N.2.2.1) (he : ic_Ev N 0 (ic_ag 0 ((.inr (.inr (some x)) : ic_V) :: as)) [] g (some (ic_J v)) g1) (hst : (st.map ic_cat).sum ≤ 8) (hsk : stk = as.reverse ++ (.inr (.inr (some x)) : ic_V) :: st) (h : ic_Ev M nx lv (ic_J v :: st) g1 r g') : ic_Ev M pc lv stk g r g' := ev_iv as hd hN hn hl0 hroom hrc hnl he hst hsk h
theorem ev_isJ {N : ic_M} {idx n : Nat} (as : List ic_V) {v : Int64} (hd : ic_at M a b = some (pc, .invokestatic idx, 3, nx)) (hN : ic_oks N n) (hn : as.length = n) (hl0 : Cond.methodLink M.1.cls idx N.1 ∈ lw_gd) (hroom : ic_rom M N = true) (hnl : (as.map ic_cat).sum ≤ N.2.2.1) (he : ic_Ev N 0 (ic_ag 0 as) [] g (some (ic_J v)) g1) (hst : (st.map ic_cat).sum ≤ 8) (hsk : stk = as.reverse ++ st) (h : ic_Ev M nx lv (ic_J v :: st) g1 r g') : ic_Ev M pc lv stk g r g' := ev_is as hd hN hn hl0 hroom hnl he hst hsk h
theorem ev_ivO {N : ic_M} {idx n : Nat} {x : ic_K} (as : List ic_V) {o : Option ic_K} (hd : ic_at M a b = some (pc, .invokevirtual idx, 3, nx)) (hN : ic_okv N n) (hn : as.length = n) (hl0 : Cond.methodLink M.1.cls idx N.1 ∈ lw_gd) (hroom : ic_rom M N = true) (hrc : ic_rc N.1.cls x) (hnl : (((.inr (.inr (some x)) : ic_V) :: as).map ic_cat).sum ≤ N.2.2.1) (he : ic_Ev N 0 (ic_ag 0 ((.inr (.inr (some x)) : ic_V) :: as)) [] g (some (.inr (.inr o))) g1) (hst : (st.map ic_cat).sum ≤ 8) (hsk : stk = as.reverse ++ (.inr (.inr (some x)) : ic_V) :: st) (h : ic_Ev M nx lv (.inr (.inr o) :: st) g1 r g') : ic_Ev M pc lv stk g r g' := ev_iv as hd hN hn hl0 hroom hrc hnl he hst hsk h
theorem ev_isO {N : ic_M} {idx n : Nat} (as : List ic_V) {o : Option ic_K} (hd : ic_at M a b = some (pc, .invokestatic idx, 3, nx)) (hN : ic_oks N n) (hn : as.length = n) (hl0 : Cond.methodLink M.1.cls idx N.1 ∈ lw_gd) (hroom : ic_rom M N = true) (hnl : (as.map ic_cat).sum ≤ N.2.2.1) (he : ic_Ev N 0 (ic_ag 0 as) [] g (some (.inr (.inr o))) g1) (hst : (st.map ic_cat).sum ≤ 8) (hsk : stk = as.reverse ++ st) (h : ic_Ev M nx lv (.inr (.inr o) :: st) g1 r g') : ic_Ev M pc lv stk g r g' := ev_is as hd hN hn hl0 hroom hnl he hst hsk h
theorem ev_ivV {N : ic_M} {idx n : Nat} {x : ic_K} (as : List ic_V)  (hd : ic_at M a b = some (pc, .invokevirtual idx, 3, nx)) (hN : ic_okv N n) (hn : as.length = n) (hl0 : Cond.methodLink M.1.cls idx N.1 ∈ lw_gd) (hroom : ic_rom M N = true) (hrc : ic_rc N.1.cls x) (hnl : (((.inr (.inr (some x)) : ic_V) :: as).map ic_cat).sum ≤ N.2.2.1) (he : ic_Ev N 0 (ic_ag 0 ((.inr (.inr (some x)) : ic_V) :: as)) [] g (none) g1) (hst : (st.map ic_cat).sum ≤ 8) (hsk : stk = as.reverse ++ (.inr (.inr (some x)) : ic_V) :: st) (h : ic_Ev M nx lv (st) g1 r g') : ic_Ev M pc lv stk g r g' := ev_iv as hd hN hn hl0 hroom hrc hnl he hst hsk h
theorem ev_isV {N : ic_M} {idx n : Nat} (as : List ic_V)  (hd : ic_at M a b = some (pc, .invokestatic idx, 3, nx)) (hN : ic_oks N n) (hn : as.length = n) (hl0 : Cond.methodLink M.1.cls idx N.1 ∈ lw_gd) (hroom : ic_rom M N = true) (hnl : (as.map ic_cat).sum ≤ N.2.2.1) (he : ic_Ev N 0 (ic_ag 0 as) [] g (none) g1) (hst : (st.map ic_cat).sum ≤ 8) (hsk : stk = as.reverse ++ st) (h : ic_Ev M nx lv (st) g1 r g') : ic_Ev M pc lv stk g r g' := ev_is as hd hN hn hl0 hroom hnl he hst hsk h
theorem ev_isnI {N : ic_M} {idx n : Nat} {host : String} (as : List ic_V) {v : Int32} (hd : ic_at M a b = some (pc, .invokestatic idx, 3, nx)) (hN : ic_oks N n) (hn : as.length = n) (hl0 : (M.1.cls, idx, N.1, host) ∈ ic_nst) (hroom : ic_rom M N = true) (hnl : (as.map ic_cat).sum ≤ N.2.2.1) (he : ic_Ev N 0 (ic_ag 0 as) [] g (some (ic_I v)) g1) (hst : (st.map ic_cat).sum ≤ 8) (hsk : stk = as.reverse ++ st) (h : ic_Ev M nx lv (ic_I v :: st) g1 r g') : ic_Ev M pc lv stk g r g' := ev_isn as hd hN hn hl0 hroom hnl he hst hsk h
end IC4
/-! the words of the functional texts -/
def ic_gd {α : Type} (c : Bool) (x : Option α) : Option α := bif c then x else none
def ic_let {α β : Type} (x : α) (f : α → β) : β := f x
def ic_mo {α : Type} (o : Option (Nat × Nat)) (a : Option α) (f : Nat → Nat → Option α) : Option α := match o with
  | none => a
  | some k => f k.1 k.2
def ic_b2 {α β : Type} (x : Option (α × ic_S)) (f : α → ic_S → Option β) : Option β := match x with
  | none => none
  | some q => f q.1 q.2
def ic_b1 {β : Type} (x : Option ic_S) (f : ic_S → Option β) : Option β := match x with
  | none => none
  | some q => f q
/-- a loop that may return: from a method's body; from a loop around it -/
def ic_bs {ρ α : Type} (x : Option ((ρ × ic_S) ⊕ (α × ic_S))) (f : α → ic_S → Option (ρ × ic_S)) : Option (ρ × ic_S) := match x with
  | none => none
  | some (.inl p) => some p
  | some (.inr q) => f q.1 q.2
def ic_bt {ρ α β : Type} (x : Option ((ρ × ic_S) ⊕ (α × ic_S))) (f : α → ic_S → Option ((ρ × ic_S) ⊕ (β × ic_S))) : Option ((ρ × ic_S) ⊕ (β × ic_S)) := match x with
  | none => none
  | some (.inl p) => some (.inl p)
  | some (.inr q) => f q.1 q.2
theorem ic_gdE {α : Type} {c : Bool} {x : Option α} {y : α} (h : ic_gd c x = some y) : c = true ∧ x = some y := by
  cases c with
  | true => exact ⟨rfl, h⟩
  | false => cases h
theorem ic_letE {α β : Type} {x : α} {f : α → Option β} {y : β} (h : ic_let x f = some y) : ∃ z, z = x ∧ f z = some y := ⟨x, rfl, h⟩
theorem ic_b2E {α β : Type} {x : Option (α × ic_S)} {f : α → ic_S → Option β} {y : β} (h : ic_b2 x f = some y) : ∃ v g, x = some (v, g) ∧ f v g = some y := by
  cases x with
  | none => cases h
  | some q => exact ⟨q.1, q.2, rfl, h⟩
theorem ic_b1E {β : Type} {x : Option ic_S} {f : ic_S → Option β} {y : β} (h : ic_b1 x f = some y) : ∃ g, x = some g ∧ f g = some y := by
  cases x with
  | none => cases h
  | some q => exact ⟨q, rfl, h⟩
theorem ic_bsE {ρ α : Type} {x : Option ((ρ × ic_S) ⊕ (α × ic_S))} {f : α → ic_S → Option (ρ × ic_S)} {y : ρ × ic_S} (h : ic_bs x f = some y) : x = some (.inl y) ∨ ∃ v g, x = some (.inr (v, g)) ∧ f v g = some y := by
  rcases x with _ | p | q
  · cases h
  · cases h
    exact Or.inl rfl
  · exact Or.inr ⟨q.1, q.2, rfl, h⟩
theorem ic_btE {ρ α β : Type} {x : Option ((ρ × ic_S) ⊕ (α × ic_S))} {f : α → ic_S → Option ((ρ × ic_S) ⊕ (β × ic_S))} {y : (ρ × ic_S) ⊕ (β × ic_S)} (h : ic_bt x f = some y) : (∃ p, x = some (.inl p) ∧ y = .inl p) ∨ ∃ v g, x = some (.inr (v, g)) ∧ f v g = some y := by
  rcases x with _ | p | q
  · cases h
  · cases h
    exact Or.inl ⟨p, rfl, rfl⟩
  · exact Or.inr ⟨q.1, q.2, rfl, h⟩
/-- a loop's end: it returned, or came to its exit -/
def ic_lq {α : Type} (q : (Int32 × ic_S) ⊕ (α × ic_S)) (r : Option ic_V) (g' : ic_S) (K : α → ic_S → Prop) : Prop := match q with
  | .inl p => r = some (ic_I p.1) ∧ g' = p.2
  | .inr p => K p.1 p.2
def ic_nz (v : Int32) : Bool := decide (v = 0) || decide (v = 1)
theorem ic_nzn {v : Int32} (h : ic_nz v = true) : narrow .boolean (.int v) = .int v ∧ fits .boolean (.int v) = true := by
  unfold ic_nz at h
  rw [Bool.or_eq_true, decide_eq_true_eq, decide_eq_true_eq] at h
  rcases h with rfl | rfl <;> exact ⟨rfl, rfl⟩
def ic_nc (v : Int32) : Bool := decide (v.toUInt32.toUInt16.toUInt32.toInt32 = v)
theorem ic_ncn {v : Int32} (h : ic_nc v = true) : narrow .char (.int v) = .int v := by
  unfold ic_nc at h
  rw [decide_eq_true_eq] at h
  show Value.int _ = _
  rw [h]
def ic_vk (C s t : Nat) : Bool := Nat.blt s (ic_ns C) && Nat.blt t (ic_nt C)
theorem ic_vks {C s t : Nat} (h : ic_vk C s t = true) : s < ic_ns C := by
  unfold ic_vk at h
  rw [Bool.and_eq_true] at h
  exact Nat.le_of_ble_eq_true h.1
theorem ic_vkt {C s t : Nat} (h : ic_vk C s t = true) : t < ic_nt C := by
  unfold ic_vk at h
  rw [Bool.and_eq_true] at h
  exact Nat.le_of_ble_eq_true h.2
end
section
/-! the methods: name, code, locals, answer, room, instructions -/
def mX0_readItems : ic_M := (⟨"IronCall$Reader", "readItems", "()I"⟩, prog_2_method_2_code, 2, (some .int), 5, 112, [[(0, .aload_n 0, 1, 1), (1, .iconst 0, 1, 2), (2, .putfield 19, 3, 5), (5, .aload_n 0, 1, 6), (6, .iconst 0, 1, 7), (7, .putfield 23, 3, 10), (10, .iconst 1, 1, 11), (11, .istore_n 1, 1, 12), (12, .iload_n 1, 1, 13), (13, .bipush 120, 2, 15), (15, .if_icmp .gt 71, 3, 18), (18, .aload_n 0, 1, 19), (19, .invokevirtual 27, 3, 22), (22, .aload_n 0, 1, 23), (23, .getfield 23, 3, 26), (26, .ifCond .ne 19, 3, 29), (29, .aload_n 0, 1, 30), (30, .getfield 9, 3, 33), (33, .aload_n 0, 1, 34), (34, .getfield 19, 3, 37), (37, .invokevirtual 30, 3, 40), (40, .ifCond .ne 5, 3, 43), (43, .iload_n 1, 1, 44), (44, .ireturn, 1, 45), (45, .aload_n 0, 1, 46), (46, .getfield 23, 3, 49), (49, .ifCond .ne 37, 3, 52), (52, .aload_n 0, 1, 53), (53, .getfield 9, 3, 56), (56, .aload_n 0, 1, 57), (57, .getfield 19, 3, 60), (60, .invokevirtual 30, 3, 63)], [(63, .iconst 3, 1, 64), (64, .if_icmp .eq 6, 3, 67), (67, .goto 19, 3, 70), (70, .aload_n 0, 1, 71), (71, .dup, 1, 72), (72, .getfield 19, 3, 75), (75, .iconst 1, 1, 76), (76, .iadd, 1, 77), (77, .putfield 19, 3, 80), (80, .iinc 1 1, 3, 83), (83, .goto (-71), 3, 86), (86, .iconst (-1), 1, 87), (87, .aload_n 0, 1, 88), (88, .getfield 9, 3, 91), (91, .aload_n 0, 1, 92), (92, .getfield 19, 3, 95), (95, .invokevirtual 36, 3, 98), (98, .isub, 1, 99), (99, .ireturn, 1, 100)]])
theorem ocX0_readItems_0 : ((mX0_readItems.2.2.2.2.2.2.getD 0 []).all fun e => decide (decode mX0_readItems.2.1 e.1 = .ok (e.2.1, e.2.2.1)) && decide (e.2.2.2 = e.1 + e.2.2.1)) = true := by decide +kernel
theorem ocX0_readItems_1 : ((mX0_readItems.2.2.2.2.2.2.getD 1 []).all fun e => decide (decode mX0_readItems.2.1 e.1 = .ok (e.2.1, e.2.2.1)) && decide (e.2.2.2 = e.1 + e.2.2.1)) = true := by decide +kernel
theorem odX0_readItems : ic_okd mX0_readItems = true := List.all_eq_true.mpr (List.forall_mem_cons.mpr ⟨ocX0_readItems_0, List.forall_mem_cons.mpr ⟨ocX0_readItems_1, fun _ hh => absurd hh List.not_mem_nil⟩⟩)
def mX0_readItem : ic_M := (⟨"IronCall$Reader", "readItem", "()V"⟩, prog_2_method_3_code, 2, none, 4, 91, [[(0, .aload_n 0, 1, 1), (1, .getfield 9, 3, 4), (4, .aload_n 0, 1, 5), (5, .getfield 19, 3, 8), (8, .invokevirtual 39, 3, 11), (11, .istore_n 1, 1, 12), (12, .aload_n 0, 1, 13), (13, .getfield 9, 3, 16), (16, .aload_n 0, 1, 17), (17, .getfield 19, 3, 20), (20, .invokevirtual 30, 3, 23), (23, .iconst 1, 1, 24), (24, .if_icmp .ne 18, 3, 27), (27, .iload_n 1, 1, 28), (28, .invokestatic 42, 3, 31), (31, .ifCond .eq 11, 3, 34), (34, .aload_n 0, 1, 35), (35, .iload_n 1, 1, 36), (36, .invokevirtual 46, 3, 39), (39, .goto 51, 3, 42), (42, .aload_n 0, 1, 43), (43, .bipush 11, 2, 45), (45, .invokevirtual 50, 3, 48), (48, .ifCond .eq 10, 3, 51), (51, .aload_n 0, 1, 52), (52, .invokevirtual 53, 3, 55), (55, .goto 35, 3, 58), (58, .aload_n 0, 1, 59), (59, .bipush 14, 2, 61), (61, .invokevirtual 50, 3, 64), (64, .ifCond .eq 21, 3, 67), (67, .aload_n 0, 1, 68)], [(68, .getfield 15, 3, 71), (71, .iconst 3, 1, 72), (72, .aload_n 0, 1, 73), (73, .iconst 0, 1, 74), (74, .bipush 20, 2, 76), (76, .invokevirtual 56, 3, 79), (79, .invokevirtual 60, 3, 82), (82, .goto 8, 3, 85), (85, .aload_n 0, 1, 86), (86, .iconst 1, 1, 87), (87, .putfield 23, 3, 90), (90, .return_, 1, 91)]])
theorem ocX0_readItem_0 : ((mX0_readItem.2.2.2.2.2.2.getD 0 []).all fun e => decide (decode mX0_readItem.2.1 e.1 = .ok (e.2.1, e.2.2.1)) && decide (e.2.2.2 = e.1 + e.2.2.1)) = true := by decide +kernel
theorem ocX0_readItem_1 : ((mX0_readItem.2.2.2.2.2.2.getD 1 []).all fun e => decide (decode mX0_readItem.2.1 e.1 = .ok (e.2.1, e.2.2.1)) && decide (e.2.2.2 = e.1 + e.2.2.1)) = true := by decide +kernel
theorem odX0_readItem : ic_okd mX0_readItem = true := List.all_eq_true.mpr (List.forall_mem_cons.mpr ⟨ocX0_readItem_0, List.forall_mem_cons.mpr ⟨ocX0_readItem_1, fun _ hh => absurd hh List.not_mem_nil⟩⟩)
def mX0_readThing : ic_M := (⟨"IronCall$Reader", "readThing", "(I)V"⟩, prog_2_method_4_code, 3, none, 3, 69, [[(0, .aload_n 0, 1, 1), (1, .getfield 15, 3, 4), (4, .iload_n 1, 1, 5), (5, .iconst 0, 1, 6), (6, .invokevirtual 66, 3, 9), (9, .istore_n 2, 1, 10), (10, .iload_n 2, 1, 11), (11, .ifCond .ge 9, 3, 14), (14, .aload_n 0, 1, 15), (15, .iconst 1, 1, 16), (16, .putfield 23, 3, 19), (19, .return_, 1, 20), (20, .aload_n 0, 1, 21), (21, .dup, 1, 22), (22, .getfield 19, 3, 25), (25, .iconst 1, 1, 26), (26, .iadd, 1, 27), (27, .putfield 19, 3, 30), (30, .aload_n 0, 1, 31), (31, .bipush 7, 2, 33), (33, .iload_n 2, 1, 34), (34, .iconst 1, 1, 35), (35, .invokevirtual 69, 3, 38), (38, .aload_n 0, 1, 39), (39, .bipush 8, 2, 41), (41, .iload_n 2, 1, 42), (42, .iconst 2, 1, 43), (43, .invokevirtual 69, 3, 46), (46, .aload_n 0, 1, 47), (47, .bipush 9, 2, 49), (49, .iload_n 2, 1, 50), (50, .iconst 3, 1, 51)], [(51, .invokevirtual 69, 3, 54), (54, .aload_n 0, 1, 55), (55, .bipush 10, 2, 57), (57, .invokevirtual 50, 3, 60), (60, .ifCond .eq 13, 3, 63), (63, .aload_n 0, 1, 64), (64, .getfield 15, 3, 67), (67, .iload_n 2, 1, 68), (68, .iconst 4, 1, 69), (69, .iconst 1, 1, 70), (70, .invokevirtual 73, 3, 73), (73, .return_, 1, 74)]])
theorem ocX0_readThing_0 : ((mX0_readThing.2.2.2.2.2.2.getD 0 []).all fun e => decide (decode mX0_readThing.2.1 e.1 = .ok (e.2.1, e.2.2.1)) && decide (e.2.2.2 = e.1 + e.2.2.1)) = true := by decide +kernel
theorem ocX0_readThing_1 : ((mX0_readThing.2.2.2.2.2.2.getD 1 []).all fun e => decide (decode mX0_readThing.2.1 e.1 = .ok (e.2.1, e.2.2.1)) && decide (e.2.2.2 = e.1 + e.2.2.1)) = true := by decide +kernel
theorem odX0_readThing : ic_okd mX0_readThing = true := List.all_eq_true.mpr (List.forall_mem_cons.mpr ⟨ocX0_readThing_0, List.forall_mem_cons.mpr ⟨ocX0_readThing_1, fun _ hh => absurd hh List.not_mem_nil⟩⟩)
def mX0_readTrait : ic_M := (⟨"IronCall$Reader", "readTrait", "(III)V"⟩, prog_2_method_5_code, 4, none, 2, 46, [[(0, .aload_n 0, 1, 1), (1, .iload_n 1, 1, 2), (2, .invokevirtual 50, 3, 5), (5, .ifCond .eq 24, 3, 8), (8, .aload_n 0, 1, 9), (9, .getfield 15, 3, 12), (12, .iload_n 2, 1, 13), (13, .iload_n 3, 1, 14), (14, .aload_n 0, 1, 15), (15, .iload_n 3, 1, 16), (16, .invokestatic 76, 3, 19), (19, .iload_n 3, 1, 20), (20, .invokestatic 79, 3, 23), (23, .invokevirtual 56, 3, 26), (26, .invokevirtual 73, 3, 29), (29, .return_, 1, 30)]])
theorem odX0_readTrait : ic_okd mX0_readTrait = true := by decide +kernel
def mX0_readCart : ic_M := (⟨"IronCall$Reader", "readCart", "()V"⟩, prog_2_method_6_code, 1, none, 2, 44, [[(0, .aload_n 0, 1, 1), (1, .getfield 15, 3, 4), (4, .iconst 0, 1, 5), (5, .aload_n 0, 1, 6), (6, .iconst 0, 1, 7), (7, .bipush 15, 2, 9), (9, .invokevirtual 56, 3, 12), (12, .invokevirtual 60, 3, 15), (15, .aload_n 0, 1, 16), (16, .getfield 15, 3, 19), (19, .iconst 1, 1, 20), (20, .aload_n 0, 1, 21), (21, .bipush 12, 2, 23), (23, .invokevirtual 50, 3, 26), (26, .ifCond .eq 7, 3, 29), (29, .iconst 0, 1, 30), (30, .goto 4, 3, 33), (33, .iconst 1, 1, 34), (34, .invokevirtual 60, 3, 37), (37, .aload_n 0, 1, 38), (38, .bipush 13, 2, 40), (40, .invokevirtual 50, 3, 43), (43, .ifCond .eq 17, 3, 46), (46, .aload_n 0, 1, 47), (47, .getfield 15, 3, 50), (50, .iconst 2, 1, 51), (51, .aload_n 0, 1, 52), (52, .iconst 0, 1, 53), (53, .iconst 3, 1, 54), (54, .invokevirtual 56, 3, 57), (57, .invokevirtual 60, 3, 60), (60, .return_, 1, 61)]])
theorem odX0_readCart : ic_okd mX0_readCart = true := by decide +kernel
def mX0_passWord : ic_M := (⟨"IronCall$Reader", "passWord", "(I)Z"⟩, prog_2_method_7_code, 3, (some .boolean), 1, 21, [[(0, .aload_n 0, 1, 1), (1, .getfield 23, 3, 4), (4, .ifCond .ne 37, 3, 7), (7, .aload_n 0, 1, 8), (8, .getfield 9, 3, 11), (11, .aload_n 0, 1, 12), (12, .getfield 19, 3, 15), (15, .invokevirtual 30, 3, 18), (18, .iconst 1, 1, 19), (19, .if_icmp .ne 22, 3, 22), (22, .aload_n 0, 1, 23), (23, .getfield 9, 3, 26), (26, .aload_n 0, 1, 27), (27, .getfield 19, 3, 30), (30, .invokevirtual 39, 3, 33), (33, .iload_n 1, 1, 34), (34, .if_icmp .ne 7, 3, 37), (37, .iconst 1, 1, 38), (38, .goto 4, 3, 41), (41, .iconst 0, 1, 42), (42, .istore_n 2, 1, 43), (43, .iload_n 2, 1, 44), (44, .ifCond .eq 13, 3, 47), (47, .aload_n 0, 1, 48), (48, .dup, 1, 49), (49, .getfield 19, 3, 52), (52, .iconst 1, 1, 53), (53, .iadd, 1, 54), (54, .putfield 19, 3, 57), (57, .iload_n 2, 1, 58), (58, .ireturn, 1, 59)]])
theorem odX0_passWord : ic_okd mX0_passWord = true := by decide +kernel
def mX0_passNumber : ic_M := (⟨"IronCall$Reader", "passNumber", "(II)I"⟩, prog_2_method_8_code, 4, (some .int), 1, 21, [[(0, .aload_n 0, 1, 1), (1, .getfield 9, 3, 4), (4, .aload_n 0, 1, 5), (5, .getfield 19, 3, 8), (8, .invokevirtual 39, 3, 11), (11, .istore_n 3, 1, 12), (12, .aload_n 0, 1, 13), (13, .getfield 23, 3, 16), (16, .ifCond .ne 28, 3, 19), (19, .aload_n 0, 1, 20), (20, .getfield 9, 3, 23), (23, .aload_n 0, 1, 24), (24, .getfield 19, 3, 27), (27, .invokevirtual 30, 3, 30), (30, .iconst 2, 1, 31), (31, .if_icmp .ne 13, 3, 34), (34, .iload_n 3, 1, 35), (35, .iload_n 1, 1, 36), (36, .if_icmp .lt 8, 3, 39), (39, .iload_n 3, 1, 40), (40, .iload_n 2, 1, 41), (41, .if_icmp .le 10, 3, 44), (44, .aload_n 0, 1, 45), (45, .iconst 1, 1, 46), (46, .putfield 23, 3, 49), (49, .iload_n 1, 1, 50), (50, .ireturn, 1, 51), (51, .aload_n 0, 1, 52), (52, .dup, 1, 53), (53, .getfield 19, 3, 56), (56, .iconst 1, 1, 57), (57, .iadd, 1, 58)], [(58, .putfield 19, 3, 61), (61, .iload_n 3, 1, 62), (62, .ireturn, 1, 63)]])
theorem ocX0_passNumber_0 : ((mX0_passNumber.2.2.2.2.2.2.getD 0 []).all fun e => decide (decode mX0_passNumber.2.1 e.1 = .ok (e.2.1, e.2.2.1)) && decide (e.2.2.2 = e.1 + e.2.2.1)) = true := by decide +kernel
theorem ocX0_passNumber_1 : ((mX0_passNumber.2.2.2.2.2.2.getD 1 []).all fun e => decide (decode mX0_passNumber.2.1 e.1 = .ok (e.2.1, e.2.2.1)) && decide (e.2.2.2 = e.1 + e.2.2.1)) = true := by decide +kernel
theorem odX0_passNumber : ic_okd mX0_passNumber = true := List.all_eq_true.mpr (List.forall_mem_cons.mpr ⟨ocX0_passNumber_0, List.forall_mem_cons.mpr ⟨ocX0_passNumber_1, fun _ hh => absurd hh List.not_mem_nil⟩⟩)
def mX1_isMissing : ic_M := (⟨"IronCall$Sheet", "isMissing", "()Z"⟩, prog_3_method_2_code, 1, (some .boolean), 0, 0, [[(0, .aload_n 0, 1, 1), (1, .getfield 9, 3, 4), (4, .ifCond .ne 7, 3, 7), (7, .iconst 1, 1, 8), (8, .goto 4, 3, 11), (11, .iconst 0, 1, 12), (12, .ireturn, 1, 13)]])
theorem odX1_isMissing : ic_okd mX1_isMissing = true := by decide +kernel
def mX1_renew : ic_M := (⟨"IronCall$Sheet", "renew", "(II)V"⟩, prog_3_method_3_code, 4, none, 0, 0, [[(0, .aload_n 0, 1, 1), (1, .iload_n 1, 1, 2), (2, .putfield 9, 3, 5), (5, .aload_n 0, 1, 6), (6, .iload_n 1, 1, 7), (7, .ifCond .ne 7, 3, 10), (10, .iconst 0, 1, 11), (11, .goto 4, 3, 14), (14, .iload_n 2, 1, 15), (15, .putfield 15, 3, 18), (18, .iconst 0, 1, 19), (19, .istore_n 3, 1, 20), (20, .iload_n 3, 1, 21), (21, .aload_n 0, 1, 22), (22, .getfield 18, 3, 25), (25, .arraylength, 1, 26), (26, .if_icmp .ge 16, 3, 29), (29, .aload_n 0, 1, 30), (30, .getfield 18, 3, 33), (33, .iload_n 3, 1, 34), (34, .iconst 0, 1, 35), (35, .iastore, 1, 36), (36, .iinc 3 1, 3, 39), (39, .goto (-19), 3, 42), (42, .return_, 1, 43)]])
theorem odX1_renew : ic_okd mX1_renew = true := by decide +kernel
def mX1_told : ic_M := (⟨"IronCall$Sheet", "told", "(I)I"⟩, prog_3_method_4_code, 2, (some .int), 0, 0, [[(0, .iload_n 1, 1, 1), (1, .ifCond .lt 21, 3, 4), (4, .iload_n 1, 1, 5), (5, .aload_n 0, 1, 6), (6, .getfield 18, 3, 9), (9, .arraylength, 1, 10), (10, .if_icmp .ge 12, 3, 13), (13, .aload_n 0, 1, 14), (14, .getfield 18, 3, 17), (17, .iload_n 1, 1, 18), (18, .iaload, 1, 19), (19, .goto 4, 3, 22), (22, .iconst 0, 1, 23), (23, .ireturn, 1, 24)]])
theorem odX1_told : ic_okd mX1_told = true := by decide +kernel
def mX1_put : ic_M := (⟨"IronCall$Sheet", "put", "(II)V"⟩, prog_3_method_5_code, 3, none, 0, 0, [[(0, .iload_n 1, 1, 1), (1, .ifCond .lt 47, 3, 4), (4, .iload_n 1, 1, 5), (5, .aload_n 0, 1, 6), (6, .getfield 18, 3, 9), (9, .arraylength, 1, 10), (10, .if_icmp .ge 38, 3, 13), (13, .aload_n 0, 1, 14), (14, .getfield 18, 3, 17), (17, .iload_n 1, 1, 18), (18, .aload_n 0, 1, 19), (19, .getfield 9, 3, 22), (22, .bipush 8, 2, 24), (24, .if_icmp .ne 8, 3, 27), (27, .iload_n 2, 1, 28), (28, .i2b, 1, 29), (29, .goto 18, 3, 32), (32, .aload_n 0, 1, 33), (33, .getfield 9, 3, 36), (36, .bipush 16, 2, 38), (38, .if_icmp .ne 8, 3, 41), (41, .iload_n 2, 1, 42), (42, .i2s, 1, 43), (43, .goto 4, 3, 46), (46, .iload_n 2, 1, 47), (47, .iastore, 1, 48), (48, .return_, 1, 49)]])
theorem odX1_put : ic_okd mX1_put = true := by decide +kernel
def mX1_hasRun : ic_M := (⟨"IronCall$Sheet", "hasRun", "(II)Z"⟩, prog_3_method_6_code, 3, (some .boolean), 0, 0, [[(0, .iload_n 1, 1, 1), (1, .ifCond .lt 29, 3, 4), (4, .iload_n 2, 1, 5), (5, .ifCond .lt 25, 3, 8), (8, .iload_n 1, 1, 9), (9, .aload_n 0, 1, 10), (10, .getfield 15, 3, 13), (13, .if_icmp .gt 17, 3, 16), (16, .iload_n 2, 1, 17), (17, .aload_n 0, 1, 18), (18, .getfield 15, 3, 21), (21, .iload_n 1, 1, 22), (22, .isub, 1, 23), (23, .if_icmp .gt 7, 3, 26), (26, .iconst 1, 1, 27), (27, .goto 4, 3, 30), (30, .iconst 0, 1, 31), (31, .ireturn, 1, 32)]])
theorem odX1_hasRun : ic_okd mX1_hasRun = true := by decide +kernel
def mX2_match : ic_M := (⟨"IronCall$Street", "match", "(LIronCall$Street;)V"⟩, prog_4_method_2_code, 4, none, 1, 22, [[(0, .aload_n 1, 1, 1), (1, .ifnonnull 4, 3, 4), (4, .return_, 1, 5), (5, .aload_n 0, 1, 6), (6, .aload_n 1, 1, 7), (7, .getfield 9, 3, 10), (10, .putfield 9, 3, 13), (13, .aload_n 0, 1, 14), (14, .aload_n 1, 1, 15), (15, .getfield 15, 3, 18), (18, .putfield 15, 3, 21), (21, .aload_n 0, 1, 22), (22, .aload_n 1, 1, 23), (23, .getfield 18, 3, 26), (26, .putfield 18, 3, 29), (29, .aload_n 0, 1, 30), (30, .aload_n 1, 1, 31), (31, .getfield 21, 3, 34), (34, .putfield 21, 3, 37), (37, .aload_n 0, 1, 38), (38, .aload_n 1, 1, 39), (39, .getfield 24, 3, 42), (42, .putfield 24, 3, 45), (45, .aload_n 0, 1, 46), (46, .aload_n 1, 1, 47), (47, .getfield 27, 3, 50), (50, .putfield 27, 3, 53), (53, .aload_n 0, 1, 54), (54, .aload_n 1, 1, 55), (55, .getfield 30, 3, 58), (58, .putfield 30, 3, 61), (61, .iconst 0, 1, 62)], [(62, .istore_n 2, 1, 63), (63, .iload_n 2, 1, 64), (64, .aload_n 0, 1, 65), (65, .getfield 30, 3, 68), (68, .if_icmp .ge 28, 3, 71), (71, .aload_n 0, 1, 72), (72, .iload_n 2, 1, 73), (73, .invokevirtual 46, 3, 76), (76, .astore_n 3, 1, 77), (77, .aload_n 3, 1, 78), (78, .ifnull 12, 3, 81), (81, .aload_n 3, 1, 82), (82, .aload_n 1, 1, 83), (83, .iload_n 2, 1, 84), (84, .invokevirtual 46, 3, 87), (87, .invokevirtual 50, 3, 90), (90, .iinc 2 1, 3, 93), (93, .goto (-30), 3, 96), (96, .iconst 0, 1, 97), (97, .istore_n 2, 1, 98), (98, .iload_n 2, 1, 99), (99, .bipush 10, 2, 101), (101, .if_icmp .ge 19, 3, 104), (104, .aload_n 0, 1, 105), (105, .iload_n 2, 1, 106), (106, .aload_n 1, 1, 107), (107, .iload_n 2, 1, 108), (108, .invokevirtual 54, 3, 111), (111, .invokevirtual 58, 3, 114), (114, .iinc 2 1, 3, 117), (117, .goto (-19), 3, 120), (120, .return_, 1, 121)]])
theorem ocX2_match_0 : ((mX2_match.2.2.2.2.2.2.getD 0 []).all fun e => decide (decode mX2_match.2.1 e.1 = .ok (e.2.1, e.2.2.1)) && decide (e.2.2.2 = e.1 + e.2.2.1)) = true := by decide +kernel
theorem ocX2_match_1 : ((mX2_match.2.2.2.2.2.2.getD 1 []).all fun e => decide (decode mX2_match.2.1 e.1 = .ok (e.2.1, e.2.2.1)) && decide (e.2.2.2 = e.1 + e.2.2.1)) = true := by decide +kernel
theorem odX2_match : ic_okd mX2_match = true := List.all_eq_true.mpr (List.forall_mem_cons.mpr ⟨ocX2_match_0, List.forall_mem_cons.mpr ⟨ocX2_match_1, fun _ hh => absurd hh List.not_mem_nil⟩⟩)
def mX2_cartTold : ic_M := (⟨"IronCall$Street", "cartTold", "(I)I"⟩, prog_4_method_3_code, 2, (some .int), 0, 0, [[(0, .iload_n 1, 1, 1), (1, .tableswitch 51 0 3 #[31, 36, 41, 46], 31, 32), (32, .aload_n 0, 1, 33), (33, .getfield 9, 3, 36), (36, .ireturn, 1, 37), (37, .aload_n 0, 1, 38), (38, .getfield 15, 3, 41), (41, .ireturn, 1, 42), (42, .aload_n 0, 1, 43), (43, .getfield 18, 3, 46), (46, .ireturn, 1, 47), (47, .aload_n 0, 1, 48), (48, .getfield 21, 3, 51), (51, .ireturn, 1, 52), (52, .iconst (-1), 1, 53), (53, .ireturn, 1, 54)]])
theorem odX2_cartTold : ic_okd mX2_cartTold = true := by decide +kernel
def mX2_alterCart : ic_M := (⟨"IronCall$Street", "alterCart", "(II)V"⟩, prog_4_method_4_code, 3, none, 0, 0, [[(0, .iload_n 1, 1, 1), (1, .tableswitch 63 0 3 #[31, 39, 47, 55], 31, 32), (32, .aload_n 0, 1, 33), (33, .iload_n 2, 1, 34), (34, .putfield 9, 3, 37), (37, .goto 27, 3, 40), (40, .aload_n 0, 1, 41), (41, .iload_n 2, 1, 42), (42, .putfield 15, 3, 45), (45, .goto 19, 3, 48), (48, .aload_n 0, 1, 49), (49, .iload_n 2, 1, 50), (50, .putfield 18, 3, 53), (53, .goto 11, 3, 56), (56, .aload_n 0, 1, 57), (57, .iload_n 2, 1, 58), (58, .putfield 21, 3, 61), (61, .goto 3, 3, 64), (64, .return_, 1, 65)]])
theorem odX2_alterCart : ic_okd mX2_alterCart = true := by decide +kernel
def mX2_hasThing : ic_M := (⟨"IronCall$Street", "hasThing", "(I)Z"⟩, prog_4_method_5_code, 2, (some .boolean), 0, 0, [[(0, .iload_n 1, 1, 1), (1, .ifCond .lt 15, 3, 4), (4, .iload_n 1, 1, 5), (5, .aload_n 0, 1, 6), (6, .getfield 30, 3, 9), (9, .if_icmp .ge 7, 3, 12), (12, .iconst 1, 1, 13), (13, .goto 4, 3, 16), (16, .iconst 0, 1, 17), (17, .ireturn, 1, 18)]])
theorem odX2_hasThing : ic_okd mX2_hasThing = true := by decide +kernel
def mX2_thingAt : ic_M := (⟨"IronCall$Street", "thingAt", "(I)LIronCall$Thing;"⟩, prog_4_method_6_code, 2, (some (.object "IronCall$Thing")), 0, 0, [[(0, .iload_n 1, 1, 1), (1, .ifCond .lt 29, 3, 4), (4, .iload_n 1, 1, 5), (5, .aload_n 0, 1, 6), (6, .getfield 30, 3, 9), (9, .if_icmp .ge 21, 3, 12), (12, .iload_n 1, 1, 13), (13, .aload_n 0, 1, 14), (14, .getfield 35, 3, 17), (17, .arraylength, 1, 18), (18, .if_icmp .ge 12, 3, 21), (21, .aload_n 0, 1, 22), (22, .getfield 35, 3, 25), (25, .iload_n 1, 1, 26), (26, .aaload, 1, 27), (27, .goto 4, 3, 30), (30, .aconst_null, 1, 31), (31, .areturn, 1, 32)]])
theorem odX2_thingAt : ic_okd mX2_thingAt = true := by decide +kernel
def mX2_addThing : ic_M := (⟨"IronCall$Street", "addThing", "(II)I"⟩, prog_4_method_7_code, 4, (some .int), 1, 22, [[(0, .aload_n 0, 1, 1), (1, .getfield 30, 3, 4), (4, .aload_n 0, 1, 5), (5, .getfield 35, 3, 8), (8, .arraylength, 1, 9), (9, .if_icmp .lt 5, 3, 12), (12, .iconst (-1), 1, 13), (13, .ireturn, 1, 14), (14, .aload_n 0, 1, 15), (15, .dup, 1, 16), (16, .getfield 30, 3, 19), (19, .iconst 1, 1, 20), (20, .iadd, 1, 21), (21, .putfield 30, 3, 24), (24, .aload_n 0, 1, 25), (25, .aload_n 0, 1, 26), (26, .getfield 30, 3, 29), (29, .iconst 1, 1, 30), (30, .isub, 1, 31), (31, .invokevirtual 46, 3, 34), (34, .astore_n 3, 1, 35), (35, .aload_n 3, 1, 36), (36, .ifnull 9, 3, 39), (39, .aload_n 3, 1, 40), (40, .iload_n 1, 1, 41), (41, .iload_n 2, 1, 42), (42, .invokevirtual 62, 3, 45), (45, .aload_n 0, 1, 46), (46, .getfield 30, 3, 49), (49, .iconst 1, 1, 50), (50, .isub, 1, 51), (51, .ireturn, 1, 52)]])
theorem odX2_addThing : ic_okd mX2_addThing = true := by decide +kernel
def mX2_told : ic_M := (⟨"IronCall$Street", "told", "(II)I"⟩, prog_4_method_8_code, 4, (some .int), 3, 71, [[(0, .aload_n 0, 1, 1), (1, .iload_n 1, 1, 2), (2, .invokevirtual 46, 3, 5), (5, .astore_n 3, 1, 6), (6, .aload_n 3, 1, 7), (7, .ifnonnull 5, 3, 10), (10, .iconst (-1), 1, 11), (11, .ireturn, 1, 12), (12, .iload_n 2, 1, 13), (13, .lookupswitch 50 #[(7, 27), (11, 37)], 27, 40), (40, .aload_n 0, 1, 41), (41, .aload_n 3, 1, 42), (42, .aload_n 0, 1, 43), (43, .getfield 9, 3, 46), (46, .invokevirtual 65, 3, 49), (49, .ireturn, 1, 50), (50, .aload_n 3, 1, 51), (51, .getfield 69, 3, 54), (54, .aload_n 0, 1, 55), (55, .getfield 9, 3, 58), (58, .isub, 1, 59), (59, .invokestatic 70, 3, 62), (62, .ireturn, 1, 63), (63, .aload_n 3, 1, 64), (64, .iload_n 2, 1, 65), (65, .invokevirtual 75, 3, 68), (68, .ireturn, 1, 69)]])
theorem odX2_told : ic_okd mX2_told = true := by decide +kernel
def mX2_alter : ic_M := (⟨"IronCall$Street", "alter", "(III)V"⟩, prog_4_method_9_code, 5, none, 1, 22, [[(0, .aload_n 0, 1, 1), (1, .iload_n 1, 1, 2), (2, .invokevirtual 46, 3, 5), (5, .astore 4, 2, 7), (7, .aload 4, 2, 9), (9, .ifnull 10, 3, 12), (12, .aload 4, 2, 14), (14, .iload_n 2, 1, 15), (15, .iload_n 3, 1, 16), (16, .invokevirtual 78, 3, 19), (19, .return_, 1, 20)]])
theorem odX2_alter : ic_okd mX2_alter = true := by decide +kernel
def mX2_isOfKind : ic_M := (⟨"IronCall$Street", "isOfKind", "(II)Z"⟩, prog_4_method_10_code, 4, (some .boolean), 2, 43, [[(0, .aload_n 0, 1, 1), (1, .iload_n 1, 1, 2), (2, .invokevirtual 46, 3, 5), (5, .astore_n 3, 1, 6), (6, .aload_n 3, 1, 7), (7, .ifnull 15, 3, 10), (10, .aload_n 3, 1, 11), (11, .iload_n 2, 1, 12), (12, .invokevirtual 81, 3, 15), (15, .ifCond .eq 7, 3, 18), (18, .iconst 1, 1, 19), (19, .goto 4, 3, 22), (22, .iconst 0, 1, 23), (23, .ireturn, 1, 24)]])
theorem odX2_isOfKind : ic_okd mX2_isOfKind = true := by decide +kernel
def mX2_feltBy : ic_M := (⟨"IronCall$Street", "feltBy", "(LIronCall$Thing;I)I"⟩, prog_4_method_11_code, 5, (some .int), 2, 47, [[(0, .aload_n 1, 1, 1), (1, .ifnonnull 5, 3, 4), (4, .iconst 0, 1, 5), (5, .ireturn, 1, 6), (6, .aload_n 1, 1, 7), (7, .getfield 69, 3, 10), (10, .iload_n 2, 1, 11), (11, .isub, 1, 12), (12, .invokestatic 70, 3, 15), (15, .istore_n 3, 1, 16), (16, .aload_n 1, 1, 17), (17, .getfield 85, 3, 20), (20, .bipush 6, 2, 22), (22, .if_icmp .eq 14, 3, 25), (25, .aload_n 1, 1, 26), (26, .aload_n 0, 1, 27), (27, .getfield 21, 3, 30), (30, .iload_n 3, 1, 31), (31, .iconst 0, 1, 32), (32, .invokevirtual 88, 3, 35), (35, .ireturn, 1, 36), (36, .aload_n 0, 1, 37), (37, .aload_n 1, 1, 38), (38, .getfield 69, 3, 41), (41, .invokevirtual 92, 3, 44), (44, .iconst 1, 1, 45), (45, .aload_n 1, 1, 46), (46, .getfield 95, 3, 49), (49, .ishl, 1, 50), (50, .iconst (-1), 1, 51), (51, .ixor, 1, 52), (52, .iand, 1, 53)], [(53, .istore 4, 2, 55), (55, .aload_n 1, 1, 56), (56, .aload_n 0, 1, 57), (57, .getfield 21, 3, 60), (60, .iload_n 3, 1, 61), (61, .iload 4, 2, 63), (63, .invokestatic 98, 3, 66), (66, .invokevirtual 88, 3, 69), (69, .ireturn, 1, 70)]])
theorem ocX2_feltBy_0 : ((mX2_feltBy.2.2.2.2.2.2.getD 0 []).all fun e => decide (decode mX2_feltBy.2.1 e.1 = .ok (e.2.1, e.2.2.1)) && decide (e.2.2.2 = e.1 + e.2.2.1)) = true := by decide +kernel
theorem ocX2_feltBy_1 : ((mX2_feltBy.2.2.2.2.2.2.getD 1 []).all fun e => decide (decode mX2_feltBy.2.1 e.1 = .ok (e.2.1, e.2.2.1)) && decide (e.2.2.2 = e.1 + e.2.2.1)) = true := by decide +kernel
theorem odX2_feltBy : ic_okd mX2_feltBy = true := List.all_eq_true.mpr (List.forall_mem_cons.mpr ⟨ocX2_feltBy_0, List.forall_mem_cons.mpr ⟨ocX2_feltBy_1, fun _ hh => absurd hh List.not_mem_nil⟩⟩)
def mX2_cellsToFeel : ic_M := (⟨"IronCall$Street", "cellsToFeel", "(II)I"⟩, prog_4_method_12_code, 5, (some .int), 3, 71, [[(0, .iconst 0, 1, 1), (1, .istore_n 3, 1, 2), (2, .iconst 0, 1, 3), (3, .istore 4, 2, 5), (5, .iload 4, 2, 7), (7, .bipush 16, 2, 9), (9, .if_icmp .ge 27, 3, 12), (12, .aload_n 0, 1, 13), (13, .aload_n 0, 1, 14), (14, .iload_n 1, 1, 15), (15, .invokevirtual 46, 3, 18), (18, .iload 4, 2, 20), (20, .invokevirtual 65, 3, 23), (23, .iload_n 2, 1, 24), (24, .if_icmp .lt 6, 3, 27), (27, .iinc 3 1, 3, 30), (30, .iinc 4 1, 3, 33), (33, .goto (-28), 3, 36), (36, .iload_n 3, 1, 37), (37, .ireturn, 1, 38)]])
theorem odX2_cellsToFeel : ic_okd mX2_cellsToFeel = true := by decide +kernel
def mX2_holdThings : ic_M := (⟨"IronCall$Street", "holdThings", "(I)V"⟩, prog_4_method_13_code, 3, none, 2, 46, [[(0, .iconst 0, 1, 1), (1, .istore_n 2, 1, 2), (2, .iload_n 2, 1, 3), (3, .aload_n 0, 1, 4), (4, .getfield 30, 3, 7), (7, .if_icmp .ge 25, 3, 10), (10, .iload_n 1, 1, 11), (11, .iload_n 2, 1, 12), (12, .ishr, 1, 13), (13, .iconst 1, 1, 14), (14, .iand, 1, 15), (15, .iconst 1, 1, 16), (16, .if_icmp .ne 10, 3, 19), (19, .aload_n 0, 1, 20), (20, .iload_n 2, 1, 21), (21, .iconst 4, 1, 22), (22, .iconst 1, 1, 23), (23, .invokevirtual 103, 3, 26), (26, .iinc 2 1, 3, 29), (29, .goto (-27), 3, 32), (32, .return_, 1, 33)]])
theorem odX2_holdThings : ic_okd mX2_holdThings = true := by decide +kernel
def mX2_thingsAt : ic_M := (⟨"IronCall$Street", "thingsAt", "(I)I"⟩, prog_4_method_14_code, 7, (some .int), 0, 0, [[(0, .iconst 0, 1, 1), (1, .istore_n 2, 1, 2), (2, .aload_n 0, 1, 3), (3, .getfield 35, 3, 6), (6, .astore_n 3, 1, 7), (7, .aload_n 3, 1, 8), (8, .arraylength, 1, 9), (9, .istore 4, 2, 11), (11, .iconst 0, 1, 12), (12, .istore 5, 2, 14), (14, .iload 5, 2, 16), (16, .iload 4, 2, 18), (18, .if_icmp .ge 59, 3, 21), (21, .aload_n 3, 1, 22), (22, .iload 5, 2, 24), (24, .aaload, 1, 25), (25, .astore 6, 2, 27), (27, .aload 6, 2, 29), (29, .ifnull 42, 3, 32), (32, .aload 6, 2, 34), (34, .getfield 95, 3, 37), (37, .aload_n 0, 1, 38), (38, .getfield 30, 3, 41), (41, .if_icmp .ge 30, 3, 44), (44, .aload 6, 2, 46), (46, .getfield 106, 3, 49), (49, .ifCond .ne 22, 3, 52), (52, .aload 6, 2, 54), (54, .getfield 69, 3, 57), (57, .iload_n 1, 1, 58), (58, .if_icmp .ne 13, 3, 61), (61, .iload_n 2, 1, 62)], [(62, .iconst 1, 1, 63), (63, .aload 6, 2, 65), (65, .getfield 95, 3, 68), (68, .ishl, 1, 69), (69, .ior, 1, 70), (70, .istore_n 2, 1, 71), (71, .iinc 5 1, 3, 74), (74, .goto (-60), 3, 77), (77, .iload_n 2, 1, 78), (78, .ireturn, 1, 79)]])
theorem ocX2_thingsAt_0 : ((mX2_thingsAt.2.2.2.2.2.2.getD 0 []).all fun e => decide (decode mX2_thingsAt.2.1 e.1 = .ok (e.2.1, e.2.2.1)) && decide (e.2.2.2 = e.1 + e.2.2.1)) = true := by decide +kernel
theorem ocX2_thingsAt_1 : ((mX2_thingsAt.2.2.2.2.2.2.getD 1 []).all fun e => decide (decode mX2_thingsAt.2.1 e.1 = .ok (e.2.1, e.2.2.1)) && decide (e.2.2.2 = e.1 + e.2.2.1)) = true := by decide +kernel
theorem odX2_thingsAt : ic_okd mX2_thingsAt = true := List.all_eq_true.mpr (List.forall_mem_cons.mpr ⟨ocX2_thingsAt_0, List.forall_mem_cons.mpr ⟨ocX2_thingsAt_1, fun _ hh => absurd hh List.not_mem_nil⟩⟩)
def mX2_thingsWith : ic_M := (⟨"IronCall$Street", "thingsWith", "(II)I"⟩, prog_4_method_15_code, 8, (some .int), 2, 41, [[(0, .iconst 0, 1, 1), (1, .istore_n 3, 1, 2), (2, .aload_n 0, 1, 3), (3, .getfield 35, 3, 6), (6, .astore 4, 2, 8), (8, .aload 4, 2, 10), (10, .arraylength, 1, 11), (11, .istore 5, 2, 13), (13, .iconst 0, 1, 14), (14, .istore 6, 2, 16), (16, .iload 6, 2, 18), (18, .iload 5, 2, 20), (20, .if_icmp .ge 53, 3, 23), (23, .aload 4, 2, 25), (25, .iload 6, 2, 27), (27, .aaload, 1, 28), (28, .astore 7, 2, 30), (30, .aload 7, 2, 32), (32, .ifnull 35, 3, 35), (35, .aload 7, 2, 37), (37, .getfield 95, 3, 40), (40, .aload_n 0, 1, 41), (41, .getfield 30, 3, 44), (44, .if_icmp .ge 23, 3, 47), (47, .aload 7, 2, 49), (49, .iload_n 1, 1, 50), (50, .invokevirtual 75, 3, 53), (53, .iload_n 2, 1, 54), (54, .if_icmp .ne 13, 3, 57), (57, .iload_n 3, 1, 58), (58, .iconst 1, 1, 59), (59, .aload 7, 2, 61)], [(61, .getfield 95, 3, 64), (64, .ishl, 1, 65), (65, .ior, 1, 66), (66, .istore_n 3, 1, 67), (67, .iinc 6 1, 3, 70), (70, .goto (-54), 3, 73), (73, .iload_n 3, 1, 74), (74, .ireturn, 1, 75)]])
theorem ocX2_thingsWith_0 : ((mX2_thingsWith.2.2.2.2.2.2.getD 0 []).all fun e => decide (decode mX2_thingsWith.2.1 e.1 = .ok (e.2.1, e.2.2.1)) && decide (e.2.2.2 = e.1 + e.2.2.1)) = true := by decide +kernel
theorem ocX2_thingsWith_1 : ((mX2_thingsWith.2.2.2.2.2.2.getD 1 []).all fun e => decide (decode mX2_thingsWith.2.1 e.1 = .ok (e.2.1, e.2.2.1)) && decide (e.2.2.2 = e.1 + e.2.2.1)) = true := by decide +kernel
theorem odX2_thingsWith : ic_okd mX2_thingsWith = true := List.all_eq_true.mpr (List.forall_mem_cons.mpr ⟨ocX2_thingsWith_0, List.forall_mem_cons.mpr ⟨ocX2_thingsWith_1, fun _ hh => absurd hh List.not_mem_nil⟩⟩)
def mX2_cellsInUse : ic_M := (⟨"IronCall$Street", "cellsInUse", "()I"⟩, prog_4_method_16_code, 3, (some .int), 1, 26, [[(0, .iconst 0, 1, 1), (1, .istore_n 1, 1, 2), (2, .iconst 0, 1, 3), (3, .istore_n 2, 1, 4), (4, .iload_n 2, 1, 5), (5, .bipush 16, 2, 7), (7, .if_icmp .ge 23, 3, 10), (10, .aload_n 0, 1, 11), (11, .iload_n 2, 1, 12), (12, .invokevirtual 92, 3, 15), (15, .ifCond .eq 9, 3, 18), (18, .iload_n 1, 1, 19), (19, .iconst 1, 1, 20), (20, .iload_n 2, 1, 21), (21, .ishl, 1, 22), (22, .ior, 1, 23), (23, .istore_n 1, 1, 24), (24, .iinc 2 1, 3, 27), (27, .goto (-23), 3, 30), (30, .iload_n 1, 1, 31), (31, .ireturn, 1, 32)]])
theorem odX2_cellsInUse : ic_okd mX2_cellsInUse = true := by decide +kernel
def mX2_sumOf : ic_M := (⟨"IronCall$Street", "sumOf", "(I)I"⟩, prog_4_method_17_code, 7, (some .int), 2, 41, [[(0, .iconst 0, 1, 1), (1, .istore_n 2, 1, 2), (2, .aload_n 0, 1, 3), (3, .getfield 35, 3, 6), (6, .astore_n 3, 1, 7), (7, .aload_n 3, 1, 8), (8, .arraylength, 1, 9), (9, .istore 4, 2, 11), (11, .iconst 0, 1, 12), (12, .istore 5, 2, 14), (14, .iload 5, 2, 16), (16, .iload 4, 2, 18), (18, .if_icmp .ge 41, 3, 21), (21, .aload_n 3, 1, 22), (22, .iload 5, 2, 24), (24, .aaload, 1, 25), (25, .astore 6, 2, 27), (27, .aload 6, 2, 29), (29, .ifnull 24, 3, 32), (32, .aload 6, 2, 34), (34, .getfield 95, 3, 37), (37, .aload_n 0, 1, 38), (38, .getfield 30, 3, 41), (41, .if_icmp .ge 12, 3, 44), (44, .iload_n 2, 1, 45), (45, .aload 6, 2, 47), (47, .iload_n 1, 1, 48), (48, .invokevirtual 75, 3, 51), (51, .iadd, 1, 52), (52, .istore_n 2, 1, 53), (53, .iinc 5 1, 3, 56), (56, .goto (-42), 3, 59)], [(59, .iload_n 2, 1, 60), (60, .ireturn, 1, 61)]])
theorem ocX2_sumOf_0 : ((mX2_sumOf.2.2.2.2.2.2.getD 0 []).all fun e => decide (decode mX2_sumOf.2.1 e.1 = .ok (e.2.1, e.2.2.1)) && decide (e.2.2.2 = e.1 + e.2.2.1)) = true := by decide +kernel
theorem ocX2_sumOf_1 : ((mX2_sumOf.2.2.2.2.2.2.getD 1 []).all fun e => decide (decode mX2_sumOf.2.1 e.1 = .ok (e.2.1, e.2.2.1)) && decide (e.2.2.2 = e.1 + e.2.2.1)) = true := by decide +kernel
theorem odX2_sumOf : ic_okd mX2_sumOf = true := List.all_eq_true.mpr (List.forall_mem_cons.mpr ⟨ocX2_sumOf_0, List.forall_mem_cons.mpr ⟨ocX2_sumOf_1, fun _ hh => absurd hh List.not_mem_nil⟩⟩)
def mX2_takenHeavy : ic_M := (⟨"IronCall$Street", "takenHeavy", "()I"⟩, prog_4_method_18_code, 6, (some .int), 0, 0, [[(0, .iconst 0, 1, 1), (1, .istore_n 1, 1, 2), (2, .aload_n 0, 1, 3), (3, .getfield 35, 3, 6), (6, .astore_n 2, 1, 7), (7, .aload_n 2, 1, 8), (8, .arraylength, 1, 9), (9, .istore_n 3, 1, 10), (10, .iconst 0, 1, 11), (11, .istore 4, 2, 13), (13, .iload 4, 2, 15), (15, .iload_n 3, 1, 16), (16, .if_icmp .ge 48, 3, 19), (19, .aload_n 2, 1, 20), (20, .iload 4, 2, 22), (22, .aaload, 1, 23), (23, .astore 5, 2, 25), (25, .aload 5, 2, 27), (27, .ifnull 31, 3, 30), (30, .aload 5, 2, 32), (32, .getfield 95, 3, 35), (35, .aload_n 0, 1, 36), (36, .getfield 30, 3, 39), (39, .if_icmp .ge 19, 3, 42), (42, .aload 5, 2, 44), (44, .getfield 106, 3, 47), (47, .ifCond .eq 11, 3, 50), (50, .iload_n 1, 1, 51), (51, .aload 5, 2, 53), (53, .getfield 110, 3, 56), (56, .iadd, 1, 57), (57, .istore_n 1, 1, 58)], [(58, .iinc 4 1, 3, 61), (61, .goto (-48), 3, 64), (64, .iload_n 1, 1, 65), (65, .ireturn, 1, 66)]])
theorem ocX2_takenHeavy_0 : ((mX2_takenHeavy.2.2.2.2.2.2.getD 0 []).all fun e => decide (decode mX2_takenHeavy.2.1 e.1 = .ok (e.2.1, e.2.2.1)) && decide (e.2.2.2 = e.1 + e.2.2.1)) = true := by decide +kernel
theorem ocX2_takenHeavy_1 : ((mX2_takenHeavy.2.2.2.2.2.2.getD 1 []).all fun e => decide (decode mX2_takenHeavy.2.1 e.1 = .ok (e.2.1, e.2.2.1)) && decide (e.2.2.2 = e.1 + e.2.2.1)) = true := by decide +kernel
theorem odX2_takenHeavy : ic_okd mX2_takenHeavy = true := List.all_eq_true.mpr (List.forall_mem_cons.mpr ⟨ocX2_takenHeavy_0, List.forall_mem_cons.mpr ⟨ocX2_takenHeavy_1, fun _ hh => absurd hh List.not_mem_nil⟩⟩)
def mX2_mostFeeling : ic_M := (⟨"IronCall$Street", "mostFeeling", "()I"⟩, prog_4_method_19_code, 7, (some .int), 3, 71, [[(0, .iconst (-1), 1, 1), (1, .istore_n 1, 1, 2), (2, .iconst (-1), 1, 3), (3, .istore_n 2, 1, 4), (4, .aload_n 0, 1, 5), (5, .getfield 35, 3, 8), (8, .astore_n 3, 1, 9), (9, .aload_n 3, 1, 10), (10, .arraylength, 1, 11), (11, .istore 4, 2, 13), (13, .iconst 0, 1, 14), (14, .istore 5, 2, 16), (16, .iload 5, 2, 18), (18, .iload 4, 2, 20), (20, .if_icmp .ge 71, 3, 23), (23, .aload_n 3, 1, 24), (24, .iload 5, 2, 26), (26, .aaload, 1, 27), (27, .astore 6, 2, 29), (29, .aload 6, 2, 31), (31, .ifnull 54, 3, 34), (34, .aload 6, 2, 36), (36, .getfield 95, 3, 39), (39, .aload_n 0, 1, 40), (40, .getfield 30, 3, 43), (43, .if_icmp .ge 42, 3, 46), (46, .aload 6, 2, 48), (48, .getfield 106, 3, 51), (51, .ifCond .ne 34, 3, 54), (54, .aload_n 0, 1, 55), (55, .aload 6, 2, 57), (57, .aload_n 0, 1, 58)], [(58, .getfield 9, 3, 61), (61, .invokevirtual 65, 3, 64), (64, .iload_n 2, 1, 65), (65, .if_icmp .le 20, 3, 68), (68, .aload 6, 2, 70), (70, .getfield 95, 3, 73), (73, .istore_n 1, 1, 74), (74, .aload_n 0, 1, 75), (75, .aload 6, 2, 77), (77, .aload_n 0, 1, 78), (78, .getfield 9, 3, 81), (81, .invokevirtual 65, 3, 84), (84, .istore_n 2, 1, 85), (85, .iinc 5 1, 3, 88), (88, .goto (-72), 3, 91), (91, .iload_n 1, 1, 92), (92, .ireturn, 1, 93)]])
theorem ocX2_mostFeeling_0 : ((mX2_mostFeeling.2.2.2.2.2.2.getD 0 []).all fun e => decide (decode mX2_mostFeeling.2.1 e.1 = .ok (e.2.1, e.2.2.1)) && decide (e.2.2.2 = e.1 + e.2.2.1)) = true := by decide +kernel
theorem ocX2_mostFeeling_1 : ((mX2_mostFeeling.2.2.2.2.2.2.getD 1 []).all fun e => decide (decode mX2_mostFeeling.2.1 e.1 = .ok (e.2.1, e.2.2.1)) && decide (e.2.2.2 = e.1 + e.2.2.1)) = true := by decide +kernel
theorem odX2_mostFeeling : ic_okd mX2_mostFeeling = true := List.all_eq_true.mpr (List.forall_mem_cons.mpr ⟨ocX2_mostFeeling_0, List.forall_mem_cons.mpr ⟨ocX2_mostFeeling_1, fun _ hh => absurd hh List.not_mem_nil⟩⟩)
def mX2_callTimes : ic_M := (⟨"IronCall$Street", "callTimes", "(I)V"⟩, prog_4_method_20_code, 3, none, 4, 95, [[(0, .iconst 0, 1, 1), (1, .istore_n 2, 1, 2), (2, .iload_n 2, 1, 3), (3, .iload_n 1, 1, 4), (4, .if_icmp .ge 40, 3, 7), (7, .aload_n 0, 1, 8), (8, .invokevirtual 113, 3, 11), (11, .aload_n 0, 1, 12), (12, .invokevirtual 116, 3, 15), (15, .aload_n 0, 1, 16), (16, .invokevirtual 119, 3, 19), (19, .aload_n 0, 1, 20), (20, .invokevirtual 122, 3, 23), (23, .aload_n 0, 1, 24), (24, .aload_n 0, 1, 25), (25, .getfield 24, 3, 28), (28, .iconst 1, 1, 29), (29, .iadd, 1, 30), (30, .ldc 125, 2, 32), (32, .invokestatic 126, 3, 35), (35, .putfield 24, 3, 38), (38, .iinc 2 1, 3, 41), (41, .goto (-39), 3, 44), (44, .return_, 1, 45)]])
theorem odX2_callTimes : ic_okd mX2_callTimes = true := by decide +kernel
def mX2_rollCart : ic_M := (⟨"IronCall$Street", "rollCart", "()V"⟩, prog_4_method_21_code, 2, none, 1, 20, [[(0, .aload_n 0, 1, 1), (1, .invokevirtual 130, 3, 4), (4, .iconst 0, 1, 5), (5, .istore_n 1, 1, 6), (6, .iload_n 1, 1, 7), (7, .aload_n 0, 1, 8), (8, .getfield 18, 3, 11), (11, .if_icmp .ge 35, 3, 14), (14, .aload_n 0, 1, 15), (15, .dup, 1, 16), (16, .getfield 9, 3, 19), (19, .aload_n 0, 1, 20), (20, .getfield 15, 3, 23), (23, .iconst 1, 1, 24), (24, .if_icmp .ne 7, 3, 27), (27, .iconst 1, 1, 28), (28, .goto 4, 3, 31), (31, .iconst (-1), 1, 32), (32, .iadd, 1, 33), (33, .putfield 9, 3, 36), (36, .aload_n 0, 1, 37), (37, .invokevirtual 130, 3, 40), (40, .iinc 1 1, 3, 43), (43, .goto (-37), 3, 46), (46, .return_, 1, 47)]])
theorem odX2_rollCart : ic_okd mX2_rollCart = true := by decide +kernel
def mX2_turnAtEnds : ic_M := (⟨"IronCall$Street", "turnAtEnds", "()V"⟩, prog_4_method_22_code, 1, none, 0, 0, [[(0, .aload_n 0, 1, 1), (1, .getfield 9, 3, 4), (4, .ifCond .ne 11, 3, 7), (7, .aload_n 0, 1, 8), (8, .iconst 1, 1, 9), (9, .putfield 15, 3, 12), (12, .goto 17, 3, 15), (15, .aload_n 0, 1, 16), (16, .getfield 9, 3, 19), (19, .bipush 15, 2, 21), (21, .if_icmp .ne 8, 3, 24), (24, .aload_n 0, 1, 25), (25, .iconst 0, 1, 26), (26, .putfield 15, 3, 29), (29, .return_, 1, 30)]])
theorem odX2_turnAtEnds : ic_okd mX2_turnAtEnds = true := by decide +kernel
def mX2_pullThings : ic_M := (⟨"IronCall$Street", "pullThings", "()V"⟩, prog_4_method_23_code, 5, none, 3, 71, [[(0, .aload_n 0, 1, 1), (1, .getfield 35, 3, 4), (4, .astore_n 1, 1, 5), (5, .aload_n 1, 1, 6), (6, .arraylength, 1, 7), (7, .istore_n 2, 1, 8), (8, .iconst 0, 1, 9), (9, .istore_n 3, 1, 10), (10, .iload_n 3, 1, 11), (11, .iload_n 2, 1, 12), (12, .if_icmp .ge 58, 3, 15), (15, .aload_n 1, 1, 16), (16, .iload_n 3, 1, 17), (17, .aaload, 1, 18), (18, .astore 4, 2, 20), (20, .aload 4, 2, 22), (22, .ifnull 42, 3, 25), (25, .aload 4, 2, 27), (27, .getfield 95, 3, 30), (30, .aload_n 0, 1, 31), (31, .getfield 30, 3, 34), (34, .if_icmp .ge 30, 3, 37), (37, .aload 4, 2, 39), (39, .getfield 106, 3, 42), (42, .ifCond .ne 22, 3, 45), (45, .aload 4, 2, 47), (47, .aload_n 0, 1, 48), (48, .aload 4, 2, 50), (50, .aload_n 0, 1, 51), (51, .getfield 9, 3, 54), (54, .invokevirtual 65, 3, 57), (57, .aload_n 0, 1, 58)], [(58, .getfield 9, 3, 61), (61, .invokevirtual 133, 3, 64), (64, .iinc 3 1, 3, 67), (67, .goto (-57), 3, 70), (70, .return_, 1, 71)]])
theorem ocX2_pullThings_0 : ((mX2_pullThings.2.2.2.2.2.2.getD 0 []).all fun e => decide (decode mX2_pullThings.2.1 e.1 = .ok (e.2.1, e.2.2.1)) && decide (e.2.2.2 = e.1 + e.2.2.1)) = true := by decide +kernel
theorem ocX2_pullThings_1 : ((mX2_pullThings.2.2.2.2.2.2.getD 1 []).all fun e => decide (decode mX2_pullThings.2.1 e.1 = .ok (e.2.1, e.2.2.1)) && decide (e.2.2.2 = e.1 + e.2.2.1)) = true := by decide +kernel
theorem odX2_pullThings : ic_okd mX2_pullThings = true := List.all_eq_true.mpr (List.forall_mem_cons.mpr ⟨ocX2_pullThings_0, List.forall_mem_cons.mpr ⟨ocX2_pullThings_1, fun _ hh => absurd hh List.not_mem_nil⟩⟩)
def mX2_takeThings : ic_M := (⟨"IronCall$Street", "takeThings", "()V"⟩, prog_4_method_24_code, 5, none, 1, 20, [[(0, .aload_n 0, 1, 1), (1, .getfield 35, 3, 4), (4, .astore_n 1, 1, 5), (5, .aload_n 1, 1, 6), (6, .arraylength, 1, 7), (7, .istore_n 2, 1, 8), (8, .iconst 0, 1, 9), (9, .istore_n 3, 1, 10), (10, .iload_n 3, 1, 11), (11, .iload_n 2, 1, 12), (12, .if_icmp .ge 77, 3, 15), (15, .aload_n 1, 1, 16), (16, .iload_n 3, 1, 17), (17, .aaload, 1, 18), (18, .astore 4, 2, 20), (20, .aload 4, 2, 22), (22, .ifnull 61, 3, 25), (25, .aload 4, 2, 27), (27, .getfield 95, 3, 30), (30, .aload_n 0, 1, 31), (31, .getfield 30, 3, 34), (34, .if_icmp .ge 49, 3, 37), (37, .aload 4, 2, 39), (39, .getfield 106, 3, 42), (42, .ifCond .ne 41, 3, 45), (45, .aload 4, 2, 47), (47, .getfield 69, 3, 50), (50, .aload_n 0, 1, 51), (51, .getfield 9, 3, 54), (54, .if_icmp .ne 29, 3, 57), (57, .aload 4, 2, 59), (59, .aload 4, 2, 61)], [(61, .invokevirtual 136, 3, 64), (64, .ifCond .eq 15, 3, 67), (67, .aload 4, 2, 69), (69, .getfield 140, 3, 72), (72, .ifCond .ne 7, 3, 75), (75, .iconst 1, 1, 76), (76, .goto 4, 3, 79), (79, .iconst 0, 1, 80), (80, .putfield 106, 3, 83), (83, .iinc 3 1, 3, 86), (86, .goto (-76), 3, 89), (89, .return_, 1, 90)]])
theorem ocX2_takeThings_0 : ((mX2_takeThings.2.2.2.2.2.2.getD 0 []).all fun e => decide (decode mX2_takeThings.2.1 e.1 = .ok (e.2.1, e.2.2.1)) && decide (e.2.2.2 = e.1 + e.2.2.1)) = true := by decide +kernel
theorem ocX2_takeThings_1 : ((mX2_takeThings.2.2.2.2.2.2.getD 1 []).all fun e => decide (decode mX2_takeThings.2.1 e.1 = .ok (e.2.1, e.2.2.1)) && decide (e.2.2.2 = e.1 + e.2.2.1)) = true := by decide +kernel
theorem odX2_takeThings : ic_okd mX2_takeThings = true := List.all_eq_true.mpr (List.forall_mem_cons.mpr ⟨ocX2_takeThings_0, List.forall_mem_cons.mpr ⟨ocX2_takeThings_1, fun _ hh => absurd hh List.not_mem_nil⟩⟩)
def mX2_restThings : ic_M := (⟨"IronCall$Street", "restThings", "()V"⟩, prog_4_method_25_code, 5, none, 2, 41, [[(0, .aload_n 0, 1, 1), (1, .getfield 35, 3, 4), (4, .astore_n 1, 1, 5), (5, .aload_n 1, 1, 6), (6, .arraylength, 1, 7), (7, .istore_n 2, 1, 8), (8, .iconst 0, 1, 9), (9, .istore_n 3, 1, 10), (10, .iload_n 3, 1, 11), (11, .iload_n 2, 1, 12), (12, .if_icmp .ge 44, 3, 15), (15, .aload_n 1, 1, 16), (16, .iload_n 3, 1, 17), (17, .aaload, 1, 18), (18, .astore 4, 2, 20), (20, .aload 4, 2, 22), (22, .ifnull 28, 3, 25), (25, .aload 4, 2, 27), (27, .getfield 95, 3, 30), (30, .aload_n 0, 1, 31), (31, .getfield 30, 3, 34), (34, .if_icmp .ge 16, 3, 37), (37, .aload 4, 2, 39), (39, .getfield 106, 3, 42), (42, .ifCond .ne 8, 3, 45), (45, .aload 4, 2, 47), (47, .invokevirtual 143, 3, 50), (50, .iinc 3 1, 3, 53), (53, .goto (-43), 3, 56), (56, .return_, 1, 57)]])
theorem odX2_restThings : ic_okd mX2_restThings = true := by decide +kernel
def mX2_draw : ic_M := (⟨"IronCall$Street", "draw", "()I"⟩, prog_4_method_26_code, 1, (some .int), 0, 0, [[(0, .aload_n 0, 1, 1), (1, .aload_n 0, 1, 2), (2, .getfield 27, 3, 5), (5, .ldc 146, 2, 7), (7, .imul, 1, 8), (8, .sipush 12345, 3, 11), (11, .iadd, 1, 12), (12, .putfield 27, 3, 15), (15, .aload_n 0, 1, 16), (16, .getfield 27, 3, 19), (19, .bipush 8, 2, 21), (21, .iushr, 1, 22), (22, .ireturn, 1, 23)]])
theorem odX2_draw : ic_okd mX2_draw = true := by decide +kernel
def mX2_hasSpot : ic_M := (⟨"IronCall$Street", "hasSpot", "(I)Z"⟩, prog_4_method_27_code, 2, (some .boolean), 0, 0, [[(0, .iload_n 1, 1, 1), (1, .ifCond .lt 16, 3, 4), (4, .iload_n 1, 1, 5), (5, .aload_n 0, 1, 6), (6, .getfield 42, 3, 9), (9, .arraylength, 1, 10), (10, .if_icmp .ge 7, 3, 13), (13, .iconst 1, 1, 14), (14, .goto 4, 3, 17), (17, .iconst 0, 1, 18), (18, .ireturn, 1, 19)]])
theorem odX2_hasSpot : ic_okd mX2_hasSpot = true := by decide +kernel
def mX2_spotTold : ic_M := (⟨"IronCall$Street", "spotTold", "(I)I"⟩, prog_4_method_28_code, 2, (some .int), 0, 0, [[(0, .iload_n 1, 1, 1), (1, .ifCond .lt 21, 3, 4), (4, .iload_n 1, 1, 5), (5, .aload_n 0, 1, 6), (6, .getfield 42, 3, 9), (9, .arraylength, 1, 10), (10, .if_icmp .ge 12, 3, 13), (13, .aload_n 0, 1, 14), (14, .getfield 42, 3, 17), (17, .iload_n 1, 1, 18), (18, .iaload, 1, 19), (19, .goto 4, 3, 22), (22, .iconst (-1), 1, 23), (23, .ireturn, 1, 24)]])
theorem odX2_spotTold : ic_okd mX2_spotTold = true := by decide +kernel
def mX2_putSpot : ic_M := (⟨"IronCall$Street", "putSpot", "(II)V"⟩, prog_4_method_29_code, 3, none, 0, 0, [[(0, .iload_n 1, 1, 1), (1, .ifCond .lt 19, 3, 4), (4, .iload_n 1, 1, 5), (5, .aload_n 0, 1, 6), (6, .getfield 42, 3, 9), (9, .arraylength, 1, 10), (10, .if_icmp .ge 10, 3, 13), (13, .aload_n 0, 1, 14), (14, .getfield 42, 3, 17), (17, .iload_n 1, 1, 18), (18, .iload_n 2, 1, 19), (19, .iastore, 1, 20), (20, .return_, 1, 21)]])
theorem odX2_putSpot : ic_okd mX2_putSpot = true := by decide +kernel
def mX2_spotsInUse : ic_M := (⟨"IronCall$Street", "spotsInUse", "()I"⟩, prog_4_method_30_code, 6, (some .int), 0, 0, [[(0, .iconst 0, 1, 1), (1, .istore_n 1, 1, 2), (2, .aload_n 0, 1, 3), (3, .getfield 42, 3, 6), (6, .astore_n 2, 1, 7), (7, .aload_n 2, 1, 8), (8, .arraylength, 1, 9), (9, .istore_n 3, 1, 10), (10, .iconst 0, 1, 11), (11, .istore 4, 2, 13), (13, .iload 4, 2, 15), (15, .iload_n 3, 1, 16), (16, .if_icmp .ge 24, 3, 19), (19, .aload_n 2, 1, 20), (20, .iload 4, 2, 22), (22, .iaload, 1, 23), (23, .istore 5, 2, 25), (25, .iload 5, 2, 27), (27, .iconst (-1), 1, 28), (28, .if_icmp .eq 6, 3, 31), (31, .iinc 1 1, 3, 34), (34, .iinc 4 1, 3, 37), (37, .goto (-24), 3, 40), (40, .iload_n 1, 1, 41), (41, .ireturn, 1, 42)]])
theorem odX2_spotsInUse : ic_okd mX2_spotsInUse = true := by decide +kernel
def mX3_append : ic_M := (⟨"IronCall$Tape", "append", "(I)V"⟩, prog_5_method_2_code, 2, none, 0, 0, [[(0, .aload_n 0, 1, 1), (1, .getfield 9, 3, 4), (4, .ifCond .lt 35, 3, 7), (7, .aload_n 0, 1, 8), (8, .getfield 9, 3, 11), (11, .aload_n 0, 1, 12), (12, .getfield 15, 3, 15), (15, .arraylength, 1, 16), (16, .if_icmp .ge 23, 3, 19), (19, .aload_n 0, 1, 20), (20, .getfield 15, 3, 23), (23, .aload_n 0, 1, 24), (24, .getfield 9, 3, 27), (27, .iload_n 1, 1, 28), (28, .iastore, 1, 29), (29, .aload_n 0, 1, 30), (30, .dup, 1, 31), (31, .getfield 9, 3, 34), (34, .iconst 1, 1, 35), (35, .iadd, 1, 36), (36, .putfield 9, 3, 39), (39, .return_, 1, 40)]])
theorem odX3_append : ic_okd mX3_append = true := by decide +kernel
def mX3_byteAt : ic_M := (⟨"IronCall$Tape", "byteAt", "(I)I"⟩, prog_5_method_3_code, 2, (some .int), 0, 0, [[(0, .iload_n 1, 1, 1), (1, .ifCond .lt 29, 3, 4), (4, .iload_n 1, 1, 5), (5, .aload_n 0, 1, 6), (6, .getfield 9, 3, 9), (9, .if_icmp .ge 21, 3, 12), (12, .iload_n 1, 1, 13), (13, .aload_n 0, 1, 14), (14, .getfield 15, 3, 17), (17, .arraylength, 1, 18), (18, .if_icmp .ge 12, 3, 21), (21, .aload_n 0, 1, 22), (22, .getfield 15, 3, 25), (25, .iload_n 1, 1, 26), (26, .iaload, 1, 27), (27, .goto 4, 3, 30), (30, .iconst (-1), 1, 31), (31, .ireturn, 1, 32)]])
theorem odX3_byteAt : ic_okd mX3_byteAt = true := by decide +kernel
def mX3_hasLetter : ic_M := (⟨"IronCall$Tape", "hasLetter", "(I)Z"⟩, prog_5_method_4_code, 3, (some .boolean), 1, 21, [[(0, .aload_n 0, 1, 1), (1, .iload_n 1, 1, 2), (2, .invokevirtual 19, 3, 5), (5, .istore_n 2, 1, 6), (6, .iload_n 2, 1, 7), (7, .bipush 97, 2, 9), (9, .if_icmp .lt 13, 3, 12), (12, .iload_n 2, 1, 13), (13, .bipush 122, 2, 15), (15, .if_icmp .gt 7, 3, 18), (18, .iconst 1, 1, 19), (19, .goto 4, 3, 22), (22, .iconst 0, 1, 23), (23, .ireturn, 1, 24)]])
theorem odX3_hasLetter : ic_okd mX3_hasLetter = true := by decide +kernel
def mX3_hasDigit : ic_M := (⟨"IronCall$Tape", "hasDigit", "(I)Z"⟩, prog_5_method_5_code, 3, (some .boolean), 1, 21, [[(0, .aload_n 0, 1, 1), (1, .iload_n 1, 1, 2), (2, .invokevirtual 19, 3, 5), (5, .istore_n 2, 1, 6), (6, .iload_n 2, 1, 7), (7, .bipush 48, 2, 9), (9, .if_icmp .lt 13, 3, 12), (12, .iload_n 2, 1, 13), (13, .bipush 57, 2, 15), (15, .if_icmp .gt 7, 3, 18), (18, .iconst 1, 1, 19), (19, .goto 4, 3, 22), (22, .iconst 0, 1, 23), (23, .ireturn, 1, 24)]])
theorem odX3_hasDigit : ic_okd mX3_hasDigit = true := by decide +kernel
def mX3_spells : ic_M := (⟨"IronCall$Tape", "spells", "(IILjava/lang/String;)Z"⟩, prog_5_method_6_code, 5, (some .boolean), 4, 85, [[(0, .aload_n 3, 1, 1), (1, .ifnull 13, 3, 4), (4, .iload_n 2, 1, 5), (5, .iload_n 1, 1, 6), (6, .isub, 1, 7), (7, .aload_n 3, 1, 8), (8, .invokevirtual 23, 3, 11), (11, .if_icmp .eq 5, 3, 14), (14, .iconst 0, 1, 15), (15, .ireturn, 1, 16), (16, .iconst 0, 1, 17), (17, .istore 4, 2, 19), (19, .iload 4, 2, 21), (21, .aload_n 3, 1, 22), (22, .invokevirtual 23, 3, 25), (25, .if_icmp .ge 28, 3, 28), (28, .aload_n 0, 1, 29), (29, .iload_n 1, 1, 30), (30, .iload 4, 2, 32), (32, .iadd, 1, 33), (33, .invokevirtual 19, 3, 36), (36, .aload_n 3, 1, 37), (37, .iload 4, 2, 39), (39, .invokevirtual 29, 3, 42), (42, .if_icmp .eq 5, 3, 45), (45, .iconst 0, 1, 46), (46, .ireturn, 1, 47), (47, .iinc 4 1, 3, 50), (50, .goto (-31), 3, 53), (53, .iconst 1, 1, 54), (54, .ireturn, 1, 55)]])
theorem odX3_spells : ic_okd mX3_spells = true := by decide +kernel
def mX4_renew : ic_M := (⟨"IronCall$Thing", "renew", "(II)V"⟩, prog_6_method_2_code, 3, none, 0, 0, [[(0, .aload_n 0, 1, 1), (1, .iload_n 1, 1, 2), (2, .putfield 15, 3, 5), (5, .aload_n 0, 1, 6), (6, .iload_n 2, 1, 7), (7, .putfield 18, 3, 10), (10, .aload_n 0, 1, 11), (11, .bipush 10, 2, 13), (13, .putfield 21, 3, 16), (16, .aload_n 0, 1, 17), (17, .iconst 0, 1, 18), (18, .putfield 24, 3, 21), (21, .aload_n 0, 1, 22), (22, .iconst 0, 1, 23), (23, .putfield 27, 3, 26), (26, .aload_n 0, 1, 27), (27, .iconst 0, 1, 28), (28, .putfield 30, 3, 31), (31, .aload_n 0, 1, 32), (32, .iconst 0, 1, 33), (33, .putfield 34, 3, 36), (36, .return_, 1, 37)]])
theorem odX4_renew : ic_okd mX4_renew = true := by decide +kernel
def mX4_match : ic_M := (⟨"IronCall$Thing", "match", "(LIronCall$Thing;)V"⟩, prog_6_method_3_code, 2, none, 0, 0, [[(0, .aload_n 1, 1, 1), (1, .ifnonnull 4, 3, 4), (4, .return_, 1, 5), (5, .aload_n 0, 1, 6), (6, .aload_n 1, 1, 7), (7, .getfield 15, 3, 10), (10, .putfield 15, 3, 13), (13, .aload_n 0, 1, 14), (14, .aload_n 1, 1, 15), (15, .getfield 18, 3, 18), (18, .putfield 18, 3, 21), (21, .aload_n 0, 1, 22), (22, .aload_n 1, 1, 23), (23, .getfield 21, 3, 26), (26, .putfield 21, 3, 29), (29, .aload_n 0, 1, 30), (30, .aload_n 1, 1, 31), (31, .getfield 24, 3, 34), (34, .putfield 24, 3, 37), (37, .aload_n 0, 1, 38), (38, .aload_n 1, 1, 39), (39, .getfield 27, 3, 42), (42, .putfield 27, 3, 45), (45, .aload_n 0, 1, 46), (46, .aload_n 1, 1, 47), (47, .getfield 30, 3, 50), (50, .putfield 30, 3, 53), (53, .aload_n 0, 1, 54), (54, .aload_n 1, 1, 55), (55, .getfield 34, 3, 58), (58, .putfield 34, 3, 61), (61, .return_, 1, 62)]])
theorem odX4_match : ic_okd mX4_match = true := by decide +kernel
def mX4_told : ic_M := (⟨"IronCall$Thing", "told", "(I)I"⟩, prog_6_method_4_code, 2, (some .int), 1, 20, [[(0, .iload_n 1, 1, 1), (1, .tableswitch 133 0 10 #[59, 64, 69, 74, 79, 92, 105, 133, 110, 115, 128], 59, 60), (60, .aload_n 0, 1, 61), (61, .getfield 15, 3, 64), (64, .ireturn, 1, 65), (65, .aload_n 0, 1, 66), (66, .getfield 18, 3, 69), (69, .ireturn, 1, 70), (70, .aload_n 0, 1, 71), (71, .getfield 21, 3, 74), (74, .ireturn, 1, 75), (75, .aload_n 0, 1, 76), (76, .getfield 24, 3, 79), (79, .ireturn, 1, 80), (80, .aload_n 0, 1, 81), (81, .getfield 30, 3, 84), (84, .ifCond .eq 7, 3, 87), (87, .iconst 1, 1, 88), (88, .goto 4, 3, 91), (91, .iconst 0, 1, 92), (92, .ireturn, 1, 93), (93, .aload_n 0, 1, 94), (94, .getfield 34, 3, 97), (97, .ifCond .eq 7, 3, 100), (100, .iconst 1, 1, 101), (101, .goto 4, 3, 104), (104, .iconst 0, 1, 105), (105, .ireturn, 1, 106), (106, .aload_n 0, 1, 107), (107, .getfield 27, 3, 110), (110, .ireturn, 1, 111), (111, .aload_n 0, 1, 112)], [(112, .invokevirtual 37, 3, 115), (115, .ireturn, 1, 116), (116, .aload_n 0, 1, 117), (117, .invokevirtual 41, 3, 120), (120, .ifCond .eq 7, 3, 123), (123, .iconst 1, 1, 124), (124, .goto 4, 3, 127), (127, .iconst 0, 1, 128), (128, .ireturn, 1, 129), (129, .aload_n 0, 1, 130), (130, .invokevirtual 45, 3, 133), (133, .ireturn, 1, 134), (134, .iconst (-1), 1, 135), (135, .ireturn, 1, 136)]])
theorem ocX4_told_0 : ((mX4_told.2.2.2.2.2.2.getD 0 []).all fun e => decide (decode mX4_told.2.1 e.1 = .ok (e.2.1, e.2.2.1)) && decide (e.2.2.2 = e.1 + e.2.2.1)) = true := by decide +kernel
theorem ocX4_told_1 : ((mX4_told.2.2.2.2.2.2.getD 1 []).all fun e => decide (decode mX4_told.2.1 e.1 = .ok (e.2.1, e.2.2.1)) && decide (e.2.2.2 = e.1 + e.2.2.1)) = true := by decide +kernel
theorem odX4_told : ic_okd mX4_told = true := List.all_eq_true.mpr (List.forall_mem_cons.mpr ⟨ocX4_told_0, List.forall_mem_cons.mpr ⟨ocX4_told_1, fun _ hh => absurd hh List.not_mem_nil⟩⟩)
def mX4_alter : ic_M := (⟨"IronCall$Thing", "alter", "(II)V"⟩, prog_6_method_5_code, 3, none, 0, 0, [[(0, .iload_n 1, 1, 1), (1, .tableswitch 117 0 6 #[43, 51, 59, 67, 75, 92, 109], 43, 44), (44, .aload_n 0, 1, 45), (45, .iload_n 2, 1, 46), (46, .putfield 15, 3, 49), (49, .goto 69, 3, 52), (52, .aload_n 0, 1, 53), (53, .iload_n 2, 1, 54), (54, .putfield 18, 3, 57), (57, .goto 61, 3, 60), (60, .aload_n 0, 1, 61), (61, .iload_n 2, 1, 62), (62, .putfield 21, 3, 65), (65, .goto 53, 3, 68), (68, .aload_n 0, 1, 69), (69, .iload_n 2, 1, 70), (70, .putfield 24, 3, 73), (73, .goto 45, 3, 76), (76, .aload_n 0, 1, 77), (77, .iload_n 2, 1, 78), (78, .iconst 1, 1, 79), (79, .if_icmp .ne 7, 3, 82), (82, .iconst 1, 1, 83), (83, .goto 4, 3, 86), (86, .iconst 0, 1, 87), (87, .putfield 30, 3, 90), (90, .goto 28, 3, 93), (93, .aload_n 0, 1, 94), (94, .iload_n 2, 1, 95), (95, .iconst 1, 1, 96), (96, .if_icmp .ne 7, 3, 99), (99, .iconst 1, 1, 100)], [(100, .goto 4, 3, 103), (103, .iconst 0, 1, 104), (104, .putfield 34, 3, 107), (107, .goto 11, 3, 110), (110, .aload_n 0, 1, 111), (111, .iload_n 2, 1, 112), (112, .putfield 27, 3, 115), (115, .goto 3, 3, 118), (118, .return_, 1, 119)]])
theorem ocX4_alter_0 : ((mX4_alter.2.2.2.2.2.2.getD 0 []).all fun e => decide (decode mX4_alter.2.1 e.1 = .ok (e.2.1, e.2.2.1)) && decide (e.2.2.2 = e.1 + e.2.2.1)) = true := by decide +kernel
theorem ocX4_alter_1 : ((mX4_alter.2.2.2.2.2.2.getD 1 []).all fun e => decide (decode mX4_alter.2.1 e.1 = .ok (e.2.1, e.2.2.1)) && decide (e.2.2.2 = e.1 + e.2.2.1)) = true := by decide +kernel
theorem odX4_alter : ic_okd mX4_alter = true := List.all_eq_true.mpr (List.forall_mem_cons.mpr ⟨ocX4_alter_0, List.forall_mem_cons.mpr ⟨ocX4_alter_1, fun _ hh => absurd hh List.not_mem_nil⟩⟩)
def mX4_feels : ic_M := (⟨"IronCall$Thing", "feels", "(III)I"⟩, prog_6_method_6_code, 7, (some .int), 1, 21, [[(0, .iload_n 1, 1, 1), (1, .iload_n 2, 1, 2), (2, .isub, 1, 3), (3, .iconst 0, 1, 4), (4, .invokestatic 48, 3, 7), (7, .istore 4, 2, 9), (9, .iconst 2, 1, 10), (10, .iload 4, 2, 12), (12, .imul, 1, 13), (13, .iload_n 2, 1, 14), (14, .iconst 3, 1, 15), (15, .if_icmp .gt 7, 3, 18), (18, .iconst 3, 1, 19), (19, .goto 4, 3, 22), (22, .iconst 0, 1, 23), (23, .iadd, 1, 24), (24, .istore 5, 2, 26), (26, .iload 4, 2, 28), (28, .iconst 3, 1, 29), (29, .idiv, 1, 30), (30, .istore 6, 2, 32), (32, .aload_n 0, 1, 33), (33, .getfield 15, 3, 36), (36, .tableswitch 78 1 6 #[40, 45, 48, 51, 60, 73], 40, 76), (76, .iconst 2, 1, 77), (77, .iload 4, 2, 79), (79, .imul, 1, 80), (80, .ireturn, 1, 81), (81, .iload 6, 2, 83), (83, .ireturn, 1, 84), (84, .iload 5, 2, 86), (86, .ireturn, 1, 87)], [(87, .iload 5, 2, 89), (89, .iconst 4, 1, 90), (90, .isub, 1, 91), (91, .iconst 0, 1, 92), (92, .invokestatic 48, 3, 95), (95, .ireturn, 1, 96), (96, .iload_n 2, 1, 97), (97, .iconst 2, 1, 98), (98, .irem, 1, 99), (99, .ifCond .ne 7, 3, 102), (102, .iload_n 1, 1, 103), (103, .goto 5, 3, 106), (106, .iload 4, 2, 108), (108, .ireturn, 1, 109), (109, .iload 6, 2, 111), (111, .iload_n 3, 1, 112), (112, .iadd, 1, 113), (113, .ireturn, 1, 114), (114, .iload 4, 2, 116), (116, .ireturn, 1, 117)]])
theorem ocX4_feels_0 : ((mX4_feels.2.2.2.2.2.2.getD 0 []).all fun e => decide (decode mX4_feels.2.1 e.1 = .ok (e.2.1, e.2.2.1)) && decide (e.2.2.2 = e.1 + e.2.2.1)) = true := by decide +kernel
theorem ocX4_feels_1 : ((mX4_feels.2.2.2.2.2.2.getD 1 []).all fun e => decide (decode mX4_feels.2.1 e.1 = .ok (e.2.1, e.2.2.1)) && decide (e.2.2.2 = e.1 + e.2.2.1)) = true := by decide +kernel
theorem odX4_feels : ic_okd mX4_feels = true := List.all_eq_true.mpr (List.forall_mem_cons.mpr ⟨ocX4_feels_0, List.forall_mem_cons.mpr ⟨ocX4_feels_1, fun _ hh => absurd hh List.not_mem_nil⟩⟩)
def mX4_steps : ic_M := (⟨"IronCall$Thing", "steps", "()I"⟩, prog_6_method_7_code, 1, (some .int), 0, 0, [[(0, .aload_n 0, 1, 1), (1, .getfield 15, 3, 4), (4, .lookupswitch 44 #[(3, 28), (5, 30)], 28, 32), (32, .iconst 2, 1, 33), (33, .ireturn, 1, 34), (34, .aload_n 0, 1, 35), (35, .getfield 21, 3, 38), (38, .iconst 5, 1, 39), (39, .if_icmp .gt 7, 3, 42), (42, .iconst 3, 1, 43), (43, .goto 4, 3, 46), (46, .iconst 1, 1, 47), (47, .ireturn, 1, 48), (48, .iconst 1, 1, 49), (49, .ireturn, 1, 50)]])
theorem odX4_steps : ic_okd mX4_steps = true := by decide +kernel
def mX4_isLiked : ic_M := (⟨"IronCall$Thing", "isLiked", "()Z"⟩, prog_6_method_8_code, 1, (some .boolean), 0, 0, [[(0, .aload_n 0, 1, 1), (1, .getfield 15, 3, 4), (4, .tableswitch 96 1 6 #[40, 96, 55, 78, 80, 82], 40, 44), (44, .aload_n 0, 1, 45), (45, .getfield 21, 3, 48), (48, .bipush 20, 2, 50), (50, .if_icmp .gt 7, 3, 53), (53, .iconst 1, 1, 54), (54, .goto 4, 3, 57), (57, .iconst 0, 1, 58), (58, .ireturn, 1, 59), (59, .aload_n 0, 1, 60), (60, .getfield 21, 3, 63), (63, .bipush 20, 2, 65), (65, .if_icmp .le 11, 3, 68), (68, .aload_n 0, 1, 69), (69, .getfield 27, 3, 72), (72, .iconst 5, 1, 73), (73, .if_icmp .lt 7, 3, 76), (76, .iconst 1, 1, 77), (77, .goto 4, 3, 80), (80, .iconst 0, 1, 81), (81, .ireturn, 1, 82), (82, .iconst 0, 1, 83), (83, .ireturn, 1, 84), (84, .iconst 0, 1, 85), (85, .ireturn, 1, 86), (86, .aload_n 0, 1, 87), (87, .getfield 24, 3, 90), (90, .iconst 5, 1, 91), (91, .if_icmp .lt 7, 3, 94), (94, .iconst 1, 1, 95)], [(95, .goto 4, 3, 98), (98, .iconst 0, 1, 99), (99, .ireturn, 1, 100), (100, .iconst 1, 1, 101), (101, .ireturn, 1, 102)]])
theorem ocX4_isLiked_0 : ((mX4_isLiked.2.2.2.2.2.2.getD 0 []).all fun e => decide (decode mX4_isLiked.2.1 e.1 = .ok (e.2.1, e.2.2.1)) && decide (e.2.2.2 = e.1 + e.2.2.1)) = true := by decide +kernel
theorem ocX4_isLiked_1 : ((mX4_isLiked.2.2.2.2.2.2.getD 1 []).all fun e => decide (decode mX4_isLiked.2.1 e.1 = .ok (e.2.1, e.2.2.1)) && decide (e.2.2.2 = e.1 + e.2.2.1)) = true := by decide +kernel
theorem odX4_isLiked : ic_okd mX4_isLiked = true := List.all_eq_true.mpr (List.forall_mem_cons.mpr ⟨ocX4_isLiked_0, List.forall_mem_cons.mpr ⟨ocX4_isLiked_1, fun _ hh => absurd hh List.not_mem_nil⟩⟩)
def mX4_rests : ic_M := (⟨"IronCall$Thing", "rests", "()I"⟩, prog_6_method_9_code, 1, (some .int), 0, 0, [[(0, .aload_n 0, 1, 1), (1, .getfield 15, 3, 4), (4, .tableswitch 52 0 6 #[44, 52, 46, 52, 48, 52, 50], 44, 48), (48, .iconst 1, 1, 49), (49, .ireturn, 1, 50), (50, .iconst 2, 1, 51), (51, .ireturn, 1, 52), (52, .iconst 2, 1, 53), (53, .ireturn, 1, 54), (54, .iconst 4, 1, 55), (55, .ireturn, 1, 56), (56, .iconst 0, 1, 57), (57, .ireturn, 1, 58)]])
theorem odX4_rests : ic_okd mX4_rests = true := by decide +kernel
def mX4_isOfKind : ic_M := (⟨"IronCall$Thing", "isOfKind", "(I)Z"⟩, prog_6_method_10_code, 4, (some .boolean), 1, 20, [[(0, .aload_n 0, 1, 1), (1, .getfield 15, 3, 4), (4, .istore_n 2, 1, 5), (5, .iconst 0, 1, 6), (6, .istore_n 3, 1, 7), (7, .iload_n 3, 1, 8), (8, .bipush 7, 2, 10), (10, .if_icmp .ge 21, 3, 13), (13, .iload_n 2, 1, 14), (14, .iload_n 1, 1, 15), (15, .if_icmp .ne 5, 3, 18), (18, .iconst 1, 1, 19), (19, .ireturn, 1, 20), (20, .iload_n 2, 1, 21), (21, .invokestatic 54, 3, 24), (24, .istore_n 2, 1, 25), (25, .iinc 3 1, 3, 28), (28, .goto (-21), 3, 31), (31, .iconst 0, 1, 32), (32, .ireturn, 1, 33)]])
theorem odX4_isOfKind : ic_okd mX4_isOfKind = true := by decide +kernel
def mX4_kindAbove : ic_M := (⟨"IronCall$Thing", "kindAbove", "(I)I"⟩, prog_6_method_11_code, 1, (some .int), 0, 0, [[(0, .iload_n 0, 1, 1), (1, .tableswitch 37 3 6 #[31, 33, 37, 35], 31, 32), (32, .iconst 1, 1, 33), (33, .ireturn, 1, 34), (34, .iconst 3, 1, 35), (35, .ireturn, 1, 36), (36, .iconst 2, 1, 37), (37, .ireturn, 1, 38), (38, .iconst 0, 1, 39), (39, .ireturn, 1, 40)]])
theorem odX4_kindAbove : ic_okd mX4_kindAbove = true := by decide +kernel
def mX4_strain : ic_M := (⟨"IronCall$Thing", "strain", "(II)V"⟩, prog_6_method_12_code, 4, none, 1, 21, [[(0, .aload_n 0, 1, 1), (1, .aload_n 0, 1, 2), (2, .getfield 24, 3, 5), (5, .iload_n 1, 1, 6), (6, .iadd, 1, 7), (7, .sipush 999, 3, 10), (10, .invokestatic 58, 3, 13), (13, .putfield 24, 3, 16), (16, .aload_n 0, 1, 17), (17, .getfield 30, 3, 20), (20, .ifCond .ne 14, 3, 23), (23, .aload_n 0, 1, 24), (24, .getfield 24, 3, 27), (27, .aload_n 0, 1, 28), (28, .getfield 21, 3, 31), (31, .if_icmp .ge 4, 3, 34), (34, .return_, 1, 35), (35, .aload_n 0, 1, 36), (36, .dup, 1, 37), (37, .getfield 24, 3, 40), (40, .aload_n 0, 1, 41), (41, .getfield 21, 3, 44), (44, .isub, 1, 45), (45, .putfield 24, 3, 48), (48, .aload_n 0, 1, 49), (49, .invokevirtual 37, 3, 52), (52, .iload_n 2, 1, 53), (53, .aload_n 0, 1, 54), (54, .getfield 18, 3, 57), (57, .isub, 1, 58), (58, .invokestatic 61, 3, 61), (61, .invokestatic 58, 3, 64)], [(64, .istore_n 3, 1, 65), (65, .aload_n 0, 1, 66), (66, .dup, 1, 67), (67, .getfield 18, 3, 70), (70, .iload_n 2, 1, 71), (71, .aload_n 0, 1, 72), (72, .getfield 18, 3, 75), (75, .if_icmp .le 7, 3, 78), (78, .iload_n 3, 1, 79), (79, .goto 5, 3, 82), (82, .iload_n 3, 1, 83), (83, .ineg, 1, 84), (84, .iadd, 1, 85), (85, .putfield 18, 3, 88), (88, .aload_n 0, 1, 89), (89, .aload_n 0, 1, 90), (90, .getfield 27, 3, 93), (93, .iload_n 3, 1, 94), (94, .iadd, 1, 95), (95, .sipush 9999, 3, 98), (98, .invokestatic 58, 3, 101), (101, .putfield 27, 3, 104), (104, .return_, 1, 105)]])
theorem ocX4_strain_0 : ((mX4_strain.2.2.2.2.2.2.getD 0 []).all fun e => decide (decode mX4_strain.2.1 e.1 = .ok (e.2.1, e.2.2.1)) && decide (e.2.2.2 = e.1 + e.2.2.1)) = true := by decide +kernel
theorem ocX4_strain_1 : ((mX4_strain.2.2.2.2.2.2.getD 1 []).all fun e => decide (decode mX4_strain.2.1 e.1 = .ok (e.2.1, e.2.2.1)) && decide (e.2.2.2 = e.1 + e.2.2.1)) = true := by decide +kernel
theorem odX4_strain : ic_okd mX4_strain = true := List.all_eq_true.mpr (List.forall_mem_cons.mpr ⟨ocX4_strain_0, List.forall_mem_cons.mpr ⟨ocX4_strain_1, fun _ hh => absurd hh List.not_mem_nil⟩⟩)
def mX4_rest : ic_M := (⟨"IronCall$Thing", "rest", "()V"⟩, prog_6_method_13_code, 1, none, 1, 21, [[(0, .aload_n 0, 1, 1), (1, .aload_n 0, 1, 2), (2, .getfield 24, 3, 5), (5, .aload_n 0, 1, 6), (6, .invokevirtual 45, 3, 9), (9, .isub, 1, 10), (10, .iconst 0, 1, 11), (11, .invokestatic 48, 3, 14), (14, .putfield 24, 3, 17), (17, .return_, 1, 18)]])
theorem odX4_rest : ic_okd mX4_rest = true := by decide +kernel
def mX5_cut : ic_M := (⟨"IronCall$Tokens", "cut", "()V"⟩, prog_7_method_2_code, 3, none, 8, 175, [[(0, .aload_n 0, 1, 1), (1, .iconst 0, 1, 2), (2, .putfield 15, 3, 5), (5, .iconst 0, 1, 6), (6, .istore_n 1, 1, 7), (7, .iconst 0, 1, 8), (8, .istore_n 2, 1, 9), (9, .iload_n 2, 1, 10), (10, .aload_n 0, 1, 11), (11, .getfield 9, 3, 14), (14, .getfield 29, 3, 17), (17, .if_icmp .ge 33, 3, 20), (20, .iload_n 2, 1, 21), (21, .iload_n 1, 1, 22), (22, .if_icmp .lt 22, 3, 25), (25, .aload_n 0, 1, 26), (26, .getfield 9, 3, 29), (29, .iload_n 2, 1, 30), (30, .invokevirtual 32, 3, 33), (33, .bipush 32, 2, 35), (35, .if_icmp .eq 9, 3, 38), (38, .aload_n 0, 1, 39), (39, .iload_n 2, 1, 40), (40, .invokevirtual 36, 3, 43), (43, .istore_n 1, 1, 44), (44, .iinc 2 1, 3, 47), (47, .goto (-38), 3, 50), (50, .aload_n 0, 1, 51), (51, .iconst 0, 1, 52), (52, .aload_n 0, 1, 53), (53, .getfield 9, 3, 56), (56, .getfield 29, 3, 59)], [(59, .iconst 0, 1, 60), (60, .invokevirtual 39, 3, 63), (63, .return_, 1, 64)]])
theorem ocX5_cut_0 : ((mX5_cut.2.2.2.2.2.2.getD 0 []).all fun e => decide (decode mX5_cut.2.1 e.1 = .ok (e.2.1, e.2.2.1)) && decide (e.2.2.2 = e.1 + e.2.2.1)) = true := by decide +kernel
theorem ocX5_cut_1 : ((mX5_cut.2.2.2.2.2.2.getD 1 []).all fun e => decide (decode mX5_cut.2.1 e.1 = .ok (e.2.1, e.2.2.1)) && decide (e.2.2.2 = e.1 + e.2.2.1)) = true := by decide +kernel
theorem odX5_cut : ic_okd mX5_cut = true := List.all_eq_true.mpr (List.forall_mem_cons.mpr ⟨ocX5_cut_0, List.forall_mem_cons.mpr ⟨ocX5_cut_1, fun _ hh => absurd hh List.not_mem_nil⟩⟩)
def mX5_cutToken : ic_M := (⟨"IronCall$Tokens", "cutToken", "(I)I"⟩, prog_7_method_3_code, 2, (some .int), 7, 154, [[(0, .aload_n 0, 1, 1), (1, .getfield 9, 3, 4), (4, .iload_n 1, 1, 5), (5, .invokevirtual 43, 3, 8), (8, .ifCond .eq 9, 3, 11), (11, .aload_n 0, 1, 12), (12, .iload_n 1, 1, 13), (13, .invokevirtual 47, 3, 16), (16, .ireturn, 1, 17), (17, .aload_n 0, 1, 18), (18, .getfield 9, 3, 21), (21, .iload_n 1, 1, 22), (22, .invokevirtual 50, 3, 25), (25, .ifCond .eq 9, 3, 28), (28, .aload_n 0, 1, 29), (29, .iload_n 1, 1, 30), (30, .invokevirtual 53, 3, 33), (33, .ireturn, 1, 34), (34, .aload_n 0, 1, 35), (35, .aload_n 0, 1, 36), (36, .getfield 9, 3, 39), (39, .iload_n 1, 1, 40), (40, .invokevirtual 32, 3, 43), (43, .bipush 59, 2, 45), (45, .if_icmp .ne 7, 3, 48), (48, .iconst 3, 1, 49), (49, .goto 4, 3, 52), (52, .iconst 4, 1, 53), (53, .iload_n 1, 1, 54), (54, .iconst 0, 1, 55), (55, .invokevirtual 39, 3, 58), (58, .iload_n 1, 1, 59)], [(59, .iconst 1, 1, 60), (60, .iadd, 1, 61), (61, .ireturn, 1, 62)]])
theorem ocX5_cutToken_0 : ((mX5_cutToken.2.2.2.2.2.2.getD 0 []).all fun e => decide (decode mX5_cutToken.2.1 e.1 = .ok (e.2.1, e.2.2.1)) && decide (e.2.2.2 = e.1 + e.2.2.1)) = true := by decide +kernel
theorem ocX5_cutToken_1 : ((mX5_cutToken.2.2.2.2.2.2.getD 1 []).all fun e => decide (decode mX5_cutToken.2.1 e.1 = .ok (e.2.1, e.2.2.1)) && decide (e.2.2.2 = e.1 + e.2.2.1)) = true := by decide +kernel
theorem odX5_cutToken : ic_okd mX5_cutToken = true := List.all_eq_true.mpr (List.forall_mem_cons.mpr ⟨ocX5_cutToken_0, List.forall_mem_cons.mpr ⟨ocX5_cutToken_1, fun _ hh => absurd hh List.not_mem_nil⟩⟩)
def mX5_cutWord : ic_M := (⟨"IronCall$Tokens", "cutWord", "(I)I"⟩, prog_7_method_4_code, 3, (some .int), 6, 132, [[(0, .iload_n 1, 1, 1), (1, .iconst 1, 1, 2), (2, .iadd, 1, 3), (3, .istore_n 2, 1, 4), (4, .iload_n 2, 1, 5), (5, .aload_n 0, 1, 6), (6, .getfield 9, 3, 9), (9, .getfield 29, 3, 12), (12, .if_icmp .ge 20, 3, 15), (15, .aload_n 0, 1, 16), (16, .getfield 9, 3, 19), (19, .iload_n 2, 1, 20), (20, .invokevirtual 43, 3, 23), (23, .ifCond .eq 9, 3, 26), (26, .iinc 2 1, 3, 29), (29, .goto (-25), 3, 32), (32, .aload_n 0, 1, 33), (33, .iconst 1, 1, 34), (34, .iload_n 1, 1, 35), (35, .aload_n 0, 1, 36), (36, .iload_n 1, 1, 37), (37, .iload_n 2, 1, 38), (38, .invokevirtual 56, 3, 41), (41, .invokevirtual 39, 3, 44), (44, .iload_n 2, 1, 45), (45, .ireturn, 1, 46)]])
theorem odX5_cutWord : ic_okd mX5_cutWord = true := by decide +kernel
def mX5_wordSpelt : ic_M := (⟨"IronCall$Tokens", "wordSpelt", "(II)I"⟩, prog_7_method_5_code, 4, (some .int), 5, 109, [[(0, .iconst 0, 1, 1), (1, .istore_n 3, 1, 2), (2, .iload_n 3, 1, 3), (3, .bipush 15, 2, 5), (5, .if_icmp .ge 27, 3, 8), (8, .aload_n 0, 1, 9), (9, .getfield 9, 3, 12), (12, .iload_n 1, 1, 13), (13, .iload_n 2, 1, 14), (14, .iload_n 3, 1, 15), (15, .invokestatic 60, 3, 18), (18, .invokevirtual 64, 3, 21), (21, .ifCond .eq 5, 3, 24), (24, .iload_n 3, 1, 25), (25, .ireturn, 1, 26), (26, .iinc 3 1, 3, 29), (29, .goto (-27), 3, 32), (32, .iconst (-1), 1, 33), (33, .ireturn, 1, 34)]])
theorem odX5_wordSpelt : ic_okd mX5_wordSpelt = true := by decide +kernel
def mX5_cutNumber : ic_M := (⟨"IronCall$Tokens", "cutNumber", "(I)I"⟩, prog_7_method_6_code, 4, (some .int), 2, 43, [[(0, .iload_n 1, 1, 1), (1, .istore_n 2, 1, 2), (2, .iconst 0, 1, 3), (3, .istore_n 3, 1, 4), (4, .iload_n 2, 1, 5), (5, .aload_n 0, 1, 6), (6, .getfield 9, 3, 9), (9, .getfield 29, 3, 12), (12, .if_icmp .ge 43, 3, 15), (15, .aload_n 0, 1, 16), (16, .getfield 9, 3, 19), (19, .iload_n 2, 1, 20), (20, .invokevirtual 50, 3, 23), (23, .ifCond .eq 32, 3, 26), (26, .iload_n 3, 1, 27), (27, .bipush 10, 2, 29), (29, .imul, 1, 30), (30, .aload_n 0, 1, 31), (31, .getfield 9, 3, 34), (34, .iload_n 2, 1, 35), (35, .invokevirtual 32, 3, 38), (38, .iadd, 1, 39), (39, .bipush 48, 2, 41), (41, .isub, 1, 42), (42, .sipush 1000, 3, 45), (45, .invokestatic 68, 3, 48), (48, .istore_n 3, 1, 49), (49, .iinc 2 1, 3, 52), (52, .goto (-48), 3, 55), (55, .aload_n 0, 1, 56), (56, .iconst 2, 1, 57), (57, .iload_n 1, 1, 58)], [(58, .iload_n 3, 1, 59), (59, .invokevirtual 39, 3, 62), (62, .iload_n 2, 1, 63), (63, .ireturn, 1, 64)]])
theorem ocX5_cutNumber_0 : ((mX5_cutNumber.2.2.2.2.2.2.getD 0 []).all fun e => decide (decode mX5_cutNumber.2.1 e.1 = .ok (e.2.1, e.2.2.1)) && decide (e.2.2.2 = e.1 + e.2.2.1)) = true := by decide +kernel
theorem ocX5_cutNumber_1 : ((mX5_cutNumber.2.2.2.2.2.2.getD 1 []).all fun e => decide (decode mX5_cutNumber.2.1 e.1 = .ok (e.2.1, e.2.2.1)) && decide (e.2.2.2 = e.1 + e.2.2.1)) = true := by decide +kernel
theorem odX5_cutNumber : ic_okd mX5_cutNumber = true := List.all_eq_true.mpr (List.forall_mem_cons.mpr ⟨ocX5_cutNumber_0, List.forall_mem_cons.mpr ⟨ocX5_cutNumber_1, fun _ hh => absurd hh List.not_mem_nil⟩⟩)
def mX5_append : ic_M := (⟨"IronCall$Tokens", "append", "(III)V"⟩, prog_7_method_7_code, 4, none, 0, 0, [[(0, .aload_n 0, 1, 1), (1, .getfield 15, 3, 4), (4, .ifCond .lt 79, 3, 7), (7, .aload_n 0, 1, 8), (8, .getfield 15, 3, 11), (11, .aload_n 0, 1, 12), (12, .getfield 19, 3, 15), (15, .arraylength, 1, 16), (16, .if_icmp .ge 67, 3, 19), (19, .aload_n 0, 1, 20), (20, .getfield 15, 3, 23), (23, .aload_n 0, 1, 24), (24, .getfield 23, 3, 27), (27, .arraylength, 1, 28), (28, .if_icmp .ge 55, 3, 31), (31, .aload_n 0, 1, 32), (32, .getfield 15, 3, 35), (35, .aload_n 0, 1, 36), (36, .getfield 26, 3, 39), (39, .arraylength, 1, 40), (40, .if_icmp .ge 43, 3, 43), (43, .aload_n 0, 1, 44), (44, .getfield 19, 3, 47), (47, .aload_n 0, 1, 48), (48, .getfield 15, 3, 51), (51, .iload_n 1, 1, 52), (52, .iastore, 1, 53), (53, .aload_n 0, 1, 54), (54, .getfield 23, 3, 57), (57, .aload_n 0, 1, 58), (58, .getfield 15, 3, 61), (61, .iload_n 2, 1, 62)], [(62, .iastore, 1, 63), (63, .aload_n 0, 1, 64), (64, .getfield 26, 3, 67), (67, .aload_n 0, 1, 68), (68, .getfield 15, 3, 71), (71, .iload_n 3, 1, 72), (72, .iastore, 1, 73), (73, .aload_n 0, 1, 74), (74, .dup, 1, 75), (75, .getfield 15, 3, 78), (78, .iconst 1, 1, 79), (79, .iadd, 1, 80), (80, .putfield 15, 3, 83), (83, .return_, 1, 84)]])
theorem ocX5_append_0 : ((mX5_append.2.2.2.2.2.2.getD 0 []).all fun e => decide (decode mX5_append.2.1 e.1 = .ok (e.2.1, e.2.2.1)) && decide (e.2.2.2 = e.1 + e.2.2.1)) = true := by decide +kernel
theorem ocX5_append_1 : ((mX5_append.2.2.2.2.2.2.getD 1 []).all fun e => decide (decode mX5_append.2.1 e.1 = .ok (e.2.1, e.2.2.1)) && decide (e.2.2.2 = e.1 + e.2.2.1)) = true := by decide +kernel
theorem odX5_append : ic_okd mX5_append = true := List.all_eq_true.mpr (List.forall_mem_cons.mpr ⟨ocX5_append_0, List.forall_mem_cons.mpr ⟨ocX5_append_1, fun _ hh => absurd hh List.not_mem_nil⟩⟩)
def mX5_sortAt : ic_M := (⟨"IronCall$Tokens", "sortAt", "(I)I"⟩, prog_7_method_8_code, 2, (some .int), 0, 0, [[(0, .iload_n 1, 1, 1), (1, .ifCond .lt 29, 3, 4), (4, .iload_n 1, 1, 5), (5, .aload_n 0, 1, 6), (6, .getfield 15, 3, 9), (9, .if_icmp .ge 21, 3, 12), (12, .iload_n 1, 1, 13), (13, .aload_n 0, 1, 14), (14, .getfield 19, 3, 17), (17, .arraylength, 1, 18), (18, .if_icmp .ge 12, 3, 21), (21, .aload_n 0, 1, 22), (22, .getfield 19, 3, 25), (25, .iload_n 1, 1, 26), (26, .iaload, 1, 27), (27, .goto 4, 3, 30), (30, .iconst 0, 1, 31), (31, .ireturn, 1, 32)]])
theorem odX5_sortAt : ic_okd mX5_sortAt = true := by decide +kernel
def mX5_placeAt : ic_M := (⟨"IronCall$Tokens", "placeAt", "(I)I"⟩, prog_7_method_9_code, 2, (some .int), 0, 0, [[(0, .iload_n 1, 1, 1), (1, .ifCond .lt 29, 3, 4), (4, .iload_n 1, 1, 5), (5, .aload_n 0, 1, 6), (6, .getfield 15, 3, 9), (9, .if_icmp .ge 21, 3, 12), (12, .iload_n 1, 1, 13), (13, .aload_n 0, 1, 14), (14, .getfield 23, 3, 17), (17, .arraylength, 1, 18), (18, .if_icmp .ge 12, 3, 21), (21, .aload_n 0, 1, 22), (22, .getfield 23, 3, 25), (25, .iload_n 1, 1, 26), (26, .iaload, 1, 27), (27, .goto 10, 3, 30), (30, .aload_n 0, 1, 31), (31, .getfield 9, 3, 34), (34, .getfield 29, 3, 37), (37, .ireturn, 1, 38)]])
theorem odX5_placeAt : ic_okd mX5_placeAt = true := by decide +kernel
def mX5_valueAt : ic_M := (⟨"IronCall$Tokens", "valueAt", "(I)I"⟩, prog_7_method_10_code, 2, (some .int), 0, 0, [[(0, .iload_n 1, 1, 1), (1, .ifCond .lt 29, 3, 4), (4, .iload_n 1, 1, 5), (5, .aload_n 0, 1, 6), (6, .getfield 15, 3, 9), (9, .if_icmp .ge 21, 3, 12), (12, .iload_n 1, 1, 13), (13, .aload_n 0, 1, 14), (14, .getfield 26, 3, 17), (17, .arraylength, 1, 18), (18, .if_icmp .ge 12, 3, 21), (21, .aload_n 0, 1, 22), (22, .getfield 26, 3, 25), (25, .iload_n 1, 1, 26), (26, .iaload, 1, 27), (27, .goto 4, 3, 30), (30, .iconst 0, 1, 31), (31, .ireturn, 1, 32)]])
theorem odX5_valueAt : ic_okd mX5_valueAt = true := by decide +kernel
def mX5_nameOf : ic_M := (⟨"IronCall$Tokens", "nameOf", "(I)Ljava/lang/String;"⟩, prog_7_method_11_code, 1, (some (.object "java/lang/String")), 0, 0, [[(0, .iload_n 0, 1, 1), (1, .tableswitch 120 0 14 #[75, 78, 81, 84, 87, 90, 93, 96, 99, 102, 105, 108, 111, 114, 117], 75, 76), (76, .ldc 73, 2, 78), (78, .areturn, 1, 79), (79, .ldc 75, 2, 81), (81, .areturn, 1, 82), (82, .ldc 77, 2, 84), (84, .areturn, 1, 85), (85, .ldc 79, 2, 87), (87, .areturn, 1, 88), (88, .ldc 81, 2, 90), (90, .areturn, 1, 91), (91, .ldc 83, 2, 93), (93, .areturn, 1, 94), (94, .ldc 85, 2, 96), (96, .areturn, 1, 97), (97, .ldc 87, 2, 99), (99, .areturn, 1, 100), (100, .ldc 89, 2, 102), (102, .areturn, 1, 103), (103, .ldc 91, 2, 105), (105, .areturn, 1, 106), (106, .ldc 93, 2, 108), (108, .areturn, 1, 109), (109, .ldc 95, 2, 111), (111, .areturn, 1, 112), (112, .ldc 97, 2, 114), (114, .areturn, 1, 115), (115, .ldc 99, 2, 117), (117, .areturn, 1, 118), (118, .ldc 101, 2, 120), (120, .areturn, 1, 121)], [(121, .ldc 103, 2, 123), (123, .areturn, 1, 124)]])
theorem ocX5_nameOf_0 : ((mX5_nameOf.2.2.2.2.2.2.getD 0 []).all fun e => decide (decode mX5_nameOf.2.1 e.1 = .ok (e.2.1, e.2.2.1)) && decide (e.2.2.2 = e.1 + e.2.2.1)) = true := by decide +kernel
theorem ocX5_nameOf_1 : ((mX5_nameOf.2.2.2.2.2.2.getD 1 []).all fun e => decide (decode mX5_nameOf.2.1 e.1 = .ok (e.2.1, e.2.2.1)) && decide (e.2.2.2 = e.1 + e.2.2.1)) = true := by decide +kernel
theorem odX5_nameOf : ic_okd mX5_nameOf = true := List.all_eq_true.mpr (List.forall_mem_cons.mpr ⟨ocX5_nameOf_0, List.forall_mem_cons.mpr ⟨ocX5_nameOf_1, fun _ hh => absurd hh List.not_mem_nil⟩⟩)
def mX6_set : ic_M := (⟨"IronCall", "set", "(II)I"⟩, prog_1_method_2_code, 4, (some .int), 1, 22, [[(0, .iload_n 2, 1, 1), (1, .ifCond .lt 11, 3, 4), (4, .iload_n 2, 1, 5), (5, .iload_n 1, 1, 6), (6, .invokestatic 62, 3, 9), (9, .if_icmp .le 9, 3, 12), (12, .aload_n 0, 1, 13), (13, .iconst 0, 1, 14), (14, .invokevirtual 66, 3, 17), (17, .ireturn, 1, 18), (18, .aload_n 0, 1, 19), (19, .getfield 10, 3, 22), (22, .iload_n 1, 1, 23), (23, .invokevirtual 69, 3, 26), (26, .istore_n 3, 1, 27), (27, .aload_n 0, 1, 28), (28, .getfield 10, 3, 31), (31, .iload_n 1, 1, 32), (32, .iload_n 2, 1, 33), (33, .invokevirtual 72, 3, 36), (36, .iload_n 3, 1, 37), (37, .ireturn, 1, 38)]])
theorem odX6_set : ic_okd mX6_set = true := by decide +kernel
def mX6_cart : ic_M := (⟨"IronCall", "cart", "(I)I"⟩, prog_1_method_3_code, 3, (some .int), 1, 21, [[(0, .aload_n 0, 1, 1), (1, .getfield 10, 3, 4), (4, .iload_n 1, 1, 5), (5, .invokevirtual 69, 3, 8), (8, .istore_n 2, 1, 9), (9, .iload_n 2, 1, 10), (10, .ifCond .ge 11, 3, 13), (13, .aload_n 0, 1, 14), (14, .iconst 0, 1, 15), (15, .invokevirtual 66, 3, 18), (18, .goto 4, 3, 21), (21, .iload_n 2, 1, 22), (22, .ireturn, 1, 23)]])
theorem odX6_cart : ic_okd mX6_cart = true := by decide +kernel
def mX6_thing : ic_M := (⟨"IronCall", "thing", "(II)I"⟩, prog_1_method_4_code, 4, (some .int), 2, 45, [[(0, .iload_n 1, 1, 1), (1, .invokestatic 76, 3, 4), (4, .ifCond .eq 10, 3, 7), (7, .iload_n 2, 1, 8), (8, .invokestatic 80, 3, 11), (11, .ifCond .ne 9, 3, 14), (14, .aload_n 0, 1, 15), (15, .iconst 0, 1, 16), (16, .invokevirtual 66, 3, 19), (19, .ireturn, 1, 20), (20, .aload_n 0, 1, 21), (21, .getfield 10, 3, 24), (24, .iload_n 1, 1, 25), (25, .iload_n 2, 1, 26), (26, .invokevirtual 83, 3, 29), (29, .istore_n 3, 1, 30), (30, .iload_n 3, 1, 31), (31, .ifCond .ge 11, 3, 34), (34, .aload_n 0, 1, 35), (35, .iconst 1, 1, 36), (36, .invokevirtual 66, 3, 39), (39, .goto 4, 3, 42), (42, .iload_n 3, 1, 43), (43, .ireturn, 1, 44)]])
theorem odX6_thing : ic_okd mX6_thing = true := by decide +kernel
def mX6_of : ic_M := (⟨"IronCall", "of", "(II)I"⟩, prog_1_method_5_code, 4, (some .int), 4, 94, [[(0, .aload_n 0, 1, 1), (1, .getfield 10, 3, 4), (4, .iload_n 1, 1, 5), (5, .iload_n 2, 1, 6), (6, .invokevirtual 87, 3, 9), (9, .istore_n 3, 1, 10), (10, .iload_n 3, 1, 11), (11, .ifCond .ge 11, 3, 14), (14, .aload_n 0, 1, 15), (15, .iconst 0, 1, 16), (16, .invokevirtual 66, 3, 19), (19, .goto 4, 3, 22), (22, .iload_n 3, 1, 23), (23, .ireturn, 1, 24)]])
theorem odX6_of : ic_okd mX6_of = true := by decide +kernel
def mX6_change : ic_M := (⟨"IronCall", "change", "(III)I"⟩, prog_1_method_6_code, 5, (some .int), 4, 94, [[(0, .aload_n 0, 1, 1), (1, .getfield 10, 3, 4), (4, .iload_n 1, 1, 5), (5, .invokevirtual 90, 3, 8), (8, .ifCond .eq 19, 3, 11), (11, .iload_n 3, 1, 12), (12, .iload_n 2, 1, 13), (13, .invokestatic 93, 3, 16), (16, .if_icmp .lt 11, 3, 19), (19, .iload_n 3, 1, 20), (20, .iload_n 2, 1, 21), (21, .invokestatic 96, 3, 24), (24, .if_icmp .le 9, 3, 27), (27, .aload_n 0, 1, 28), (28, .iconst 0, 1, 29), (29, .invokevirtual 66, 3, 32), (32, .ireturn, 1, 33), (33, .aload_n 0, 1, 34), (34, .getfield 10, 3, 37), (37, .iload_n 1, 1, 38), (38, .iload_n 2, 1, 39), (39, .invokevirtual 87, 3, 42), (42, .istore 4, 2, 44), (44, .aload_n 0, 1, 45), (45, .getfield 10, 3, 48), (48, .iload_n 1, 1, 49), (49, .iload_n 2, 1, 50), (50, .iload_n 3, 1, 51), (51, .invokevirtual 99, 3, 54), (54, .iload 4, 2, 56), (56, .ireturn, 1, 57)]])
theorem odX6_change : ic_okd mX6_change = true := by decide +kernel
def mX6_who : ic_M := (⟨"IronCall", "who", "(I)I"⟩, prog_1_method_7_code, 2, (some .int), 1, 26, [[(0, .iload_n 1, 1, 1), (1, .invokestatic 80, 3, 4), (4, .ifCond .eq 14, 3, 7), (7, .aload_n 0, 1, 8), (8, .getfield 10, 3, 11), (11, .iload_n 1, 1, 12), (12, .invokevirtual 103, 3, 15), (15, .goto 8, 3, 18), (18, .aload_n 0, 1, 19), (19, .iconst 0, 1, 20), (20, .invokevirtual 66, 3, 23), (23, .ireturn, 1, 24)]])
theorem odX6_who : ic_okd mX6_who = true := by decide +kernel
def mX6_go : ic_M := (⟨"IronCall", "go", "(I)I"⟩, prog_1_method_8_code, 2, (some .int), 5, 117, [[(0, .iload_n 1, 1, 1), (1, .iconst 1, 1, 2), (2, .if_icmp .lt 9, 3, 5), (5, .iload_n 1, 1, 6), (6, .bipush 60, 2, 8), (8, .if_icmp .le 9, 3, 11), (11, .aload_n 0, 1, 12), (12, .iconst 0, 1, 13), (13, .invokevirtual 66, 3, 16), (16, .ireturn, 1, 17), (17, .aload_n 0, 1, 18), (18, .getfield 10, 3, 21), (21, .getfield 106, 3, 24), (24, .iload_n 1, 1, 25), (25, .iadd, 1, 26), (26, .ldc 110, 2, 28), (28, .if_icmp .le 9, 3, 31), (31, .aload_n 0, 1, 32), (32, .iconst 4, 1, 33), (33, .invokevirtual 66, 3, 36), (36, .ireturn, 1, 37), (37, .aload_n 0, 1, 38), (38, .getfield 10, 3, 41), (41, .iload_n 1, 1, 42), (42, .invokevirtual 111, 3, 45), (45, .aload_n 0, 1, 46), (46, .getfield 10, 3, 49), (49, .iconst 5, 1, 50), (50, .iconst 1, 1, 51), (51, .invokevirtual 115, 3, 54), (54, .ireturn, 1, 55)]])
theorem odX6_go : ic_okd mX6_go = true := by decide +kernel
def mX6_now : ic_M := (⟨"IronCall", "now", "(I)I"⟩, prog_1_method_9_code, 2, (some .int), 4, 97, [[(0, .iload_n 1, 1, 1), (1, .tableswitch 118 0 7 #[47, 55, 65, 74, 84, 92, 100, 108], 47, 48), (48, .aload_n 0, 1, 49), (49, .getfield 10, 3, 52), (52, .getfield 106, 3, 55), (55, .ireturn, 1, 56), (56, .aload_n 0, 1, 57), (57, .getfield 10, 3, 60), (60, .iconst 5, 1, 61), (61, .iconst 1, 1, 62), (62, .invokevirtual 115, 3, 65), (65, .ireturn, 1, 66), (66, .aload_n 0, 1, 67), (67, .getfield 10, 3, 70), (70, .iconst 3, 1, 71), (71, .invokevirtual 118, 3, 74), (74, .ireturn, 1, 75), (75, .aload_n 0, 1, 76), (76, .getfield 10, 3, 79), (79, .bipush 6, 2, 81), (81, .invokevirtual 118, 3, 84), (84, .ireturn, 1, 85), (85, .aload_n 0, 1, 86), (86, .getfield 10, 3, 89), (89, .invokevirtual 121, 3, 92), (92, .ireturn, 1, 93), (93, .aload_n 0, 1, 94), (94, .getfield 10, 3, 97), (97, .invokevirtual 125, 3, 100), (100, .ireturn, 1, 101), (101, .aload_n 0, 1, 102), (102, .getfield 10, 3, 105)], [(105, .invokevirtual 128, 3, 108), (108, .ireturn, 1, 109), (109, .aload_n 0, 1, 110), (110, .getfield 10, 3, 113), (113, .iconst 4, 1, 114), (114, .iconst 1, 1, 115), (115, .invokevirtual 115, 3, 118), (118, .ireturn, 1, 119), (119, .aload_n 0, 1, 120), (120, .iconst 0, 1, 121), (121, .invokevirtual 66, 3, 124), (124, .ireturn, 1, 125)]])
theorem ocX6_now_0 : ((mX6_now.2.2.2.2.2.2.getD 0 []).all fun e => decide (decode mX6_now.2.1 e.1 = .ok (e.2.1, e.2.2.1)) && decide (e.2.2.2 = e.1 + e.2.2.1)) = true := by decide +kernel
theorem ocX6_now_1 : ((mX6_now.2.2.2.2.2.2.getD 1 []).all fun e => decide (decode mX6_now.2.1 e.1 = .ok (e.2.1, e.2.2.1)) && decide (e.2.2.2 = e.1 + e.2.2.1)) = true := by decide +kernel
theorem odX6_now : ic_okd mX6_now = true := List.all_eq_true.mpr (List.forall_mem_cons.mpr ⟨ocX6_now_0, List.forall_mem_cons.mpr ⟨ocX6_now_1, fun _ hh => absurd hh List.not_mem_nil⟩⟩)
def mX6_ahead : ic_M := (⟨"IronCall", "ahead", "(III)I"⟩, prog_1_method_10_code, 5, (some .int), 5, 117, [[(0, .iload_n 2, 1, 1), (1, .iconst 1, 1, 2), (2, .if_icmp .eq 19, 3, 5), (5, .iload_n 2, 1, 6), (6, .iconst 3, 1, 7), (7, .if_icmp .eq 14, 3, 10), (10, .iload_n 2, 1, 11), (11, .iconst 5, 1, 12), (12, .if_icmp .eq 9, 3, 15), (15, .iload_n 2, 1, 16), (16, .bipush 6, 2, 18), (18, .if_icmp .ne 7, 3, 21), (21, .iconst 1, 1, 22), (22, .goto 4, 3, 25), (25, .iconst 0, 1, 26), (26, .istore 4, 2, 28), (28, .aload_n 0, 1, 29), (29, .getfield 10, 3, 32), (32, .iload_n 1, 1, 33), (33, .invokevirtual 90, 3, 36), (36, .ifCond .eq 18, 3, 39), (39, .iload 4, 2, 41), (41, .ifCond .eq 13, 3, 44), (44, .iload_n 3, 1, 45), (45, .ifCond .lt 9, 3, 48), (48, .iload_n 3, 1, 49), (49, .bipush 100, 2, 51), (51, .if_icmp .le 9, 3, 54), (54, .aload_n 0, 1, 55), (55, .iconst 0, 1, 56), (56, .invokevirtual 66, 3, 59), (59, .ireturn, 1, 60)], [(60, .aload_n 0, 1, 61), (61, .invokevirtual 131, 3, 64), (64, .aload_n 0, 1, 65), (65, .getfield 16, 3, 68), (68, .iload_n 3, 1, 69), (69, .invokevirtual 111, 3, 72), (72, .aload_n 0, 1, 73), (73, .getfield 16, 3, 76), (76, .iload_n 1, 1, 77), (77, .iload_n 2, 1, 78), (78, .invokevirtual 87, 3, 81), (81, .ireturn, 1, 82)]])
theorem ocX6_ahead_0 : ((mX6_ahead.2.2.2.2.2.2.getD 0 []).all fun e => decide (decode mX6_ahead.2.1 e.1 = .ok (e.2.1, e.2.2.1)) && decide (e.2.2.2 = e.1 + e.2.2.1)) = true := by decide +kernel
theorem ocX6_ahead_1 : ((mX6_ahead.2.2.2.2.2.2.getD 1 []).all fun e => decide (decode mX6_ahead.2.1 e.1 = .ok (e.2.1, e.2.2.1)) && decide (e.2.2.2 = e.1 + e.2.2.1)) = true := by decide +kernel
theorem odX6_ahead : ic_okd mX6_ahead = true := List.all_eq_true.mpr (List.forall_mem_cons.mpr ⟨ocX6_ahead_0, List.forall_mem_cons.mpr ⟨ocX6_ahead_1, fun _ hh => absurd hh List.not_mem_nil⟩⟩)
def mX6_where : ic_M := (⟨"IronCall", "where", "(I)I"⟩, prog_1_method_11_code, 2, (some .int), 5, 117, [[(0, .iload_n 1, 1, 1), (1, .ifCond .lt 9, 3, 4), (4, .iload_n 1, 1, 5), (5, .bipush 100, 2, 7), (7, .if_icmp .le 9, 3, 10), (10, .aload_n 0, 1, 11), (11, .iconst 0, 1, 12), (12, .invokevirtual 66, 3, 15), (15, .ireturn, 1, 16), (16, .aload_n 0, 1, 17), (17, .invokevirtual 131, 3, 20), (20, .aload_n 0, 1, 21), (21, .getfield 16, 3, 24), (24, .iload_n 1, 1, 25), (25, .invokevirtual 111, 3, 28), (28, .aload_n 0, 1, 29), (29, .getfield 16, 3, 32), (32, .getfield 134, 3, 35), (35, .ireturn, 1, 36)]])
theorem odX6_where : ic_okd mX6_where = true := by decide +kernel
def mX6_taken : ic_M := (⟨"IronCall", "taken", "(I)I"⟩, prog_1_method_12_code, 2, (some .int), 6, 143, [[(0, .aload_n 0, 1, 1), (1, .getfield 10, 3, 4), (4, .iload_n 1, 1, 5), (5, .invokevirtual 90, 3, 8), (8, .ifCond .ne 9, 3, 11), (11, .aload_n 0, 1, 12), (12, .iconst 0, 1, 13), (13, .invokevirtual 66, 3, 16), (16, .ireturn, 1, 17), (17, .aload_n 0, 1, 18), (18, .iload_n 1, 1, 19), (19, .iconst 5, 1, 20), (20, .iconst 1, 1, 21), (21, .iconst 1, 1, 22), (22, .invokevirtual 137, 3, 25), (25, .ireturn, 1, 26)]])
theorem odX6_taken : ic_okd mX6_taken = true := by decide +kernel
def mX6_when : ic_M := (⟨"IronCall", "when", "(II)I"⟩, prog_1_method_13_code, 3, (some .int), 6, 143, [[(0, .aload_n 0, 1, 1), (1, .getfield 10, 3, 4), (4, .iload_n 1, 1, 5), (5, .invokevirtual 90, 3, 8), (8, .ifCond .eq 10, 3, 11), (11, .iload_n 2, 1, 12), (12, .invokestatic 80, 3, 15), (15, .ifCond .ne 9, 3, 18), (18, .aload_n 0, 1, 19), (19, .iconst 0, 1, 20), (20, .invokevirtual 66, 3, 23), (23, .ireturn, 1, 24), (24, .aload_n 0, 1, 25), (25, .iload_n 1, 1, 26), (26, .iconst 1, 1, 27), (27, .iload_n 2, 1, 28), (28, .iload_n 2, 1, 29), (29, .invokevirtual 137, 3, 32), (32, .ireturn, 1, 33)]])
theorem odX6_when : ic_okd mX6_when = true := by decide +kernel
def mX6_meet : ic_M := (⟨"IronCall", "meet", "(II)I"⟩, prog_1_method_14_code, 4, (some .int), 5, 117, [[(0, .aload_n 0, 1, 1), (1, .getfield 10, 3, 4), (4, .iload_n 1, 1, 5), (5, .invokevirtual 90, 3, 8), (8, .ifCond .eq 19, 3, 11), (11, .aload_n 0, 1, 12), (12, .getfield 10, 3, 15), (15, .iload_n 2, 1, 16), (16, .invokevirtual 90, 3, 19), (19, .ifCond .eq 8, 3, 22), (22, .iload_n 1, 1, 23), (23, .iload_n 2, 1, 24), (24, .if_icmp .ne 9, 3, 27), (27, .aload_n 0, 1, 28), (28, .iconst 0, 1, 29), (29, .invokevirtual 66, 3, 32), (32, .ireturn, 1, 33), (33, .aload_n 0, 1, 34), (34, .invokevirtual 131, 3, 37), (37, .iconst 0, 1, 38), (38, .istore_n 3, 1, 39), (39, .iload_n 3, 1, 40), (40, .sipush 200, 3, 43), (43, .if_icmp .gt 40, 3, 46), (46, .aload_n 0, 1, 47), (47, .getfield 16, 3, 50), (50, .iload_n 1, 1, 51), (51, .iconst 1, 1, 52), (52, .invokevirtual 87, 3, 55), (55, .aload_n 0, 1, 56), (56, .getfield 16, 3, 59), (59, .iload_n 2, 1, 60)], [(60, .iconst 1, 1, 61), (61, .invokevirtual 87, 3, 64), (64, .if_icmp .ne 5, 3, 67), (67, .iload_n 3, 1, 68), (68, .ireturn, 1, 69), (69, .aload_n 0, 1, 70), (70, .getfield 16, 3, 73), (73, .iconst 1, 1, 74), (74, .invokevirtual 111, 3, 77), (77, .iinc 3 1, 3, 80), (80, .goto (-41), 3, 83), (83, .aload_n 0, 1, 84), (84, .iconst 3, 1, 85), (85, .invokevirtual 66, 3, 88), (88, .ireturn, 1, 89)]])
theorem ocX6_meet_0 : ((mX6_meet.2.2.2.2.2.2.getD 0 []).all fun e => decide (decode mX6_meet.2.1 e.1 = .ok (e.2.1, e.2.2.1)) && decide (e.2.2.2 = e.1 + e.2.2.1)) = true := by decide +kernel
theorem ocX6_meet_1 : ((mX6_meet.2.2.2.2.2.2.getD 1 []).all fun e => decide (decode mX6_meet.2.1 e.1 = .ok (e.2.1, e.2.2.1)) && decide (e.2.2.2 = e.1 + e.2.2.1)) = true := by decide +kernel
theorem odX6_meet : ic_okd mX6_meet = true := List.all_eq_true.mpr (List.forall_mem_cons.mpr ⟨ocX6_meet_0, List.forall_mem_cons.mpr ⟨ocX6_meet_1, fun _ hh => absurd hh List.not_mem_nil⟩⟩)
def mX6_strained : ic_M := (⟨"IronCall", "strained", "(II)I"⟩, prog_1_method_15_code, 3, (some .int), 6, 143, [[(0, .aload_n 0, 1, 1), (1, .getfield 10, 3, 4), (4, .iload_n 1, 1, 5), (5, .invokevirtual 90, 3, 8), (8, .ifCond .eq 14, 3, 11), (11, .iload_n 2, 1, 12), (12, .ifCond .lt 10, 3, 15), (15, .iload_n 2, 1, 16), (16, .sipush 999, 3, 19), (19, .if_icmp .le 9, 3, 22), (22, .aload_n 0, 1, 23), (23, .iconst 0, 1, 24), (24, .invokevirtual 66, 3, 27), (27, .ireturn, 1, 28), (28, .aload_n 0, 1, 29), (29, .iload_n 1, 1, 30), (30, .iconst 3, 1, 31), (31, .iload_n 2, 1, 32), (32, .sipush 999, 3, 35), (35, .invokevirtual 137, 3, 38), (38, .ireturn, 1, 39)]])
theorem odX6_strained : ic_okd mX6_strained = true := by decide +kernel
def mX6_loudFor : ic_M := (⟨"IronCall", "loudFor", "(II)I"⟩, prog_1_method_16_code, 4, (some .int), 5, 117, [[(0, .aload_n 0, 1, 1), (1, .getfield 10, 3, 4), (4, .iload_n 1, 1, 5), (5, .invokevirtual 90, 3, 8), (8, .ifCond .eq 10, 3, 11), (11, .iload_n 2, 1, 12), (12, .invokestatic 141, 3, 15), (15, .ifCond .ne 9, 3, 18), (18, .aload_n 0, 1, 19), (19, .iconst 0, 1, 20), (20, .invokevirtual 66, 3, 23), (23, .ireturn, 1, 24), (24, .iconst 0, 1, 25), (25, .istore_n 3, 1, 26), (26, .iload_n 3, 1, 27), (27, .bipush 20, 2, 29), (29, .if_icmp .gt 45, 3, 32), (32, .aload_n 0, 1, 33), (33, .invokevirtual 131, 3, 36), (36, .aload_n 0, 1, 37), (37, .getfield 16, 3, 40), (40, .iconst 3, 1, 41), (41, .iload_n 3, 1, 42), (42, .invokevirtual 72, 3, 45), (45, .aload_n 0, 1, 46), (46, .getfield 16, 3, 49), (49, .iload_n 2, 1, 50), (50, .invokevirtual 111, 3, 53), (53, .aload_n 0, 1, 54), (54, .getfield 16, 3, 57), (57, .iload_n 1, 1, 58), (58, .iconst 5, 1, 59)], [(59, .invokevirtual 87, 3, 62), (62, .iconst 1, 1, 63), (63, .if_icmp .ne 5, 3, 66), (66, .iload_n 3, 1, 67), (67, .ireturn, 1, 68), (68, .iinc 3 1, 3, 71), (71, .goto (-45), 3, 74), (74, .aload_n 0, 1, 75), (75, .iconst 3, 1, 76), (76, .invokevirtual 66, 3, 79), (79, .ireturn, 1, 80)]])
theorem ocX6_loudFor_0 : ((mX6_loudFor.2.2.2.2.2.2.getD 0 []).all fun e => decide (decode mX6_loudFor.2.1 e.1 = .ok (e.2.1, e.2.2.1)) && decide (e.2.2.2 = e.1 + e.2.2.1)) = true := by decide +kernel
theorem ocX6_loudFor_1 : ((mX6_loudFor.2.2.2.2.2.2.getD 1 []).all fun e => decide (decode mX6_loudFor.2.1 e.1 = .ok (e.2.1, e.2.2.1)) && decide (e.2.2.2 = e.1 + e.2.2.1)) = true := by decide +kernel
theorem odX6_loudFor : ic_okd mX6_loudFor = true := List.all_eq_true.mpr (List.forall_mem_cons.mpr ⟨ocX6_loudFor_0, List.forall_mem_cons.mpr ⟨ocX6_loudFor_1, fun _ hh => absurd hh List.not_mem_nil⟩⟩)
def mX6_startFor : ic_M := (⟨"IronCall", "startFor", "(I)I"⟩, prog_1_method_17_code, 6, (some .int), 5, 117, [[(0, .iload_n 1, 1, 1), (1, .invokestatic 141, 3, 4), (4, .ifCond .ne 9, 3, 7), (7, .aload_n 0, 1, 8), (8, .iconst 0, 1, 9), (9, .invokevirtual 66, 3, 12), (12, .ireturn, 1, 13), (13, .iconst 0, 1, 14), (14, .istore_n 2, 1, 15), (15, .iconst (-1), 1, 16), (16, .istore_n 3, 1, 17), (17, .iconst 0, 1, 18), (18, .istore 4, 2, 20), (20, .iload 4, 2, 22), (22, .bipush 16, 2, 24), (24, .if_icmp .ge 52, 3, 27), (27, .aload_n 0, 1, 28), (28, .invokevirtual 131, 3, 31), (31, .aload_n 0, 1, 32), (32, .getfield 16, 3, 35), (35, .iconst 0, 1, 36), (36, .iload 4, 2, 38), (38, .invokevirtual 72, 3, 41), (41, .aload_n 0, 1, 42), (42, .getfield 16, 3, 45), (45, .iload_n 1, 1, 46), (46, .invokevirtual 111, 3, 49), (49, .aload_n 0, 1, 50), (50, .getfield 16, 3, 53), (53, .invokevirtual 121, 3, 56), (56, .istore 5, 2, 58), (58, .iload 5, 2, 60)], [(60, .iload_n 3, 1, 61), (61, .if_icmp .le 9, 3, 64), (64, .iload 5, 2, 66), (66, .istore_n 3, 1, 67), (67, .iload 4, 2, 69), (69, .istore_n 2, 1, 70), (70, .iinc 4 1, 3, 73), (73, .goto (-53), 3, 76), (76, .iload_n 2, 1, 77), (77, .ireturn, 1, 78)]])
theorem ocX6_startFor_0 : ((mX6_startFor.2.2.2.2.2.2.getD 0 []).all fun e => decide (decode mX6_startFor.2.1 e.1 = .ok (e.2.1, e.2.2.1)) && decide (e.2.2.2 = e.1 + e.2.2.1)) = true := by decide +kernel
theorem ocX6_startFor_1 : ((mX6_startFor.2.2.2.2.2.2.getD 1 []).all fun e => decide (decode mX6_startFor.2.1 e.1 = .ok (e.2.1, e.2.2.1)) && decide (e.2.2.2 = e.1 + e.2.2.1)) = true := by decide +kernel
theorem odX6_startFor : ic_okd mX6_startFor = true := List.all_eq_true.mpr (List.forall_mem_cons.mpr ⟨ocX6_startFor_0, List.forall_mem_cons.mpr ⟨ocX6_startFor_1, fun _ hh => absurd hh List.not_mem_nil⟩⟩)
def mX6_layFor : ic_M := (⟨"IronCall", "layFor", "(II)I"⟩, prog_1_method_18_code, 3, (some .int), 6, 144, [[(0, .aload_n 0, 1, 1), (1, .iload_n 1, 1, 2), (2, .iconst 1, 1, 3), (3, .iload_n 2, 1, 4), (4, .invokevirtual 144, 3, 7), (7, .ireturn, 1, 8)]])
theorem odX6_layFor : ic_okd mX6_layFor = true := by decide +kernel
def mX6_kindFor : ic_M := (⟨"IronCall", "kindFor", "(II)I"⟩, prog_1_method_19_code, 3, (some .int), 6, 144, [[(0, .aload_n 0, 1, 1), (1, .iload_n 1, 1, 2), (2, .iconst 0, 1, 3), (3, .iload_n 2, 1, 4), (4, .invokevirtual 144, 3, 7), (7, .ireturn, 1, 8)]])
theorem odX6_kindFor : ic_okd mX6_kindFor = true := by decide +kernel
def mX6_heavyFor : ic_M := (⟨"IronCall", "heavyFor", "(II)I"⟩, prog_1_method_20_code, 4, (some .int), 5, 117, [[(0, .aload_n 0, 1, 1), (1, .getfield 10, 3, 4), (4, .iload_n 1, 1, 5), (5, .invokevirtual 90, 3, 8), (8, .ifCond .eq 10, 3, 11), (11, .iload_n 2, 1, 12), (12, .invokestatic 141, 3, 15), (15, .ifCond .ne 9, 3, 18), (18, .aload_n 0, 1, 19), (19, .iconst 0, 1, 20), (20, .invokevirtual 66, 3, 23), (23, .ireturn, 1, 24), (24, .iconst 1, 1, 25), (25, .istore_n 3, 1, 26), (26, .iload_n 3, 1, 27), (27, .bipush 99, 2, 29), (29, .if_icmp .gt 45, 3, 32), (32, .aload_n 0, 1, 33), (33, .invokevirtual 131, 3, 36), (36, .aload_n 0, 1, 37), (37, .getfield 16, 3, 40), (40, .iload_n 1, 1, 41), (41, .iconst 2, 1, 42), (42, .iload_n 3, 1, 43), (43, .invokevirtual 99, 3, 46), (46, .aload_n 0, 1, 47), (47, .getfield 16, 3, 50), (50, .iload_n 2, 1, 51), (51, .invokevirtual 111, 3, 54), (54, .aload_n 0, 1, 55), (55, .getfield 16, 3, 58), (58, .iload_n 1, 1, 59)], [(59, .iconst 5, 1, 60), (60, .invokevirtual 87, 3, 63), (63, .ifCond .ne 5, 3, 66), (66, .iload_n 3, 1, 67), (67, .ireturn, 1, 68), (68, .iinc 3 1, 3, 71), (71, .goto (-45), 3, 74), (74, .aload_n 0, 1, 75), (75, .iconst 3, 1, 76), (76, .invokevirtual 66, 3, 79), (79, .ireturn, 1, 80)]])
theorem ocX6_heavyFor_0 : ((mX6_heavyFor.2.2.2.2.2.2.getD 0 []).all fun e => decide (decode mX6_heavyFor.2.1 e.1 = .ok (e.2.1, e.2.2.1)) && decide (e.2.2.2 = e.1 + e.2.2.1)) = true := by decide +kernel
theorem ocX6_heavyFor_1 : ((mX6_heavyFor.2.2.2.2.2.2.getD 1 []).all fun e => decide (decode mX6_heavyFor.2.1 e.1 = .ok (e.2.1, e.2.2.1)) && decide (e.2.2.2 = e.1 + e.2.2.1)) = true := by decide +kernel
theorem odX6_heavyFor : ic_okd mX6_heavyFor = true := List.all_eq_true.mpr (List.forall_mem_cons.mpr ⟨ocX6_heavyFor_0, List.forall_mem_cons.mpr ⟨ocX6_heavyFor_1, fun _ hh => absurd hh List.not_mem_nil⟩⟩)
def mX6_holdFast : ic_M := (⟨"IronCall", "holdFast", "(I)I"⟩, prog_1_method_21_code, 5, (some .int), 6, 139, [[(0, .iload_n 1, 1, 1), (1, .ifCond .lt 9, 3, 4), (4, .iload_n 1, 1, 5), (5, .bipush 20, 2, 7), (7, .if_icmp .le 9, 3, 10), (10, .aload_n 0, 1, 11), (11, .iconst 0, 1, 12), (12, .invokevirtual 66, 3, 15), (15, .ireturn, 1, 16), (16, .iconst 1, 1, 17), (17, .aload_n 0, 1, 18), (18, .getfield 10, 3, 21), (21, .getfield 148, 3, 24), (24, .ishl, 1, 25), (25, .istore_n 2, 1, 26), (26, .iconst 0, 1, 27), (27, .istore_n 3, 1, 28), (28, .iload_n 3, 1, 29), (29, .aload_n 0, 1, 30), (30, .getfield 10, 3, 33), (33, .getfield 148, 3, 36), (36, .if_icmp .gt 46, 3, 39), (39, .iconst 0, 1, 40), (40, .istore 4, 2, 42), (42, .iload 4, 2, 44), (44, .iload_n 2, 1, 45), (45, .if_icmp .ge 31, 3, 48), (48, .iload 4, 2, 50), (50, .invokestatic 151, 3, 53), (53, .iload_n 3, 1, 54), (54, .if_icmp .ne 16, 3, 57), (57, .aload_n 0, 1, 58)], [(58, .iload 4, 2, 60), (60, .iload_n 1, 1, 61), (61, .invokevirtual 156, 3, 64), (64, .ifCond .eq 6, 3, 67), (67, .iload 4, 2, 69), (69, .ireturn, 1, 70), (70, .iinc 4 1, 3, 73), (73, .goto (-31), 3, 76), (76, .iinc 3 1, 3, 79), (79, .goto (-51), 3, 82), (82, .aload_n 0, 1, 83), (83, .iconst 3, 1, 84), (84, .invokevirtual 66, 3, 87), (87, .ireturn, 1, 88)]])
theorem ocX6_holdFast_0 : ((mX6_holdFast.2.2.2.2.2.2.getD 0 []).all fun e => decide (decode mX6_holdFast.2.1 e.1 = .ok (e.2.1, e.2.2.1)) && decide (e.2.2.2 = e.1 + e.2.2.1)) = true := by decide +kernel
theorem ocX6_holdFast_1 : ((mX6_holdFast.2.2.2.2.2.2.getD 1 []).all fun e => decide (decode mX6_holdFast.2.1 e.1 = .ok (e.2.1, e.2.2.1)) && decide (e.2.2.2 = e.1 + e.2.2.1)) = true := by decide +kernel
theorem odX6_holdFast : ic_okd mX6_holdFast = true := List.all_eq_true.mpr (List.forall_mem_cons.mpr ⟨ocX6_holdFast_0, List.forall_mem_cons.mpr ⟨ocX6_holdFast_1, fun _ hh => absurd hh List.not_mem_nil⟩⟩)
def mX6_fits : ic_M := (⟨"IronCall", "fits", "(II)I"⟩, prog_1_method_22_code, 3, (some .int), 7, 169, [[(0, .aload_n 0, 1, 1), (1, .iload_n 1, 1, 2), (2, .iload_n 2, 1, 3), (3, .iconst 1, 1, 4), (4, .iconst 3, 1, 5), (5, .invokevirtual 160, 3, 8), (8, .ireturn, 1, 9)]])
theorem odX6_fits : ic_okd mX6_fits = true := by decide +kernel
def mX6_kinds : ic_M := (⟨"IronCall", "kinds", "(II)I"⟩, prog_1_method_23_code, 3, (some .int), 7, 169, [[(0, .aload_n 0, 1, 1), (1, .iload_n 1, 1, 2), (2, .iload_n 2, 1, 3), (3, .iconst 0, 1, 4), (4, .iconst 1, 1, 5), (5, .invokevirtual 160, 3, 8), (8, .ireturn, 1, 9)]])
theorem odX6_kinds : ic_okd mX6_kinds = true := by decide +kernel
def mX6_calls : ic_M := (⟨"IronCall", "calls", "(I)I"⟩, prog_1_method_24_code, 3, (some .int), 5, 117, [[(0, .iload_n 1, 1, 1), (1, .iconst 1, 1, 2), (2, .if_icmp .lt 9, 3, 5), (5, .iload_n 1, 1, 6), (6, .bipush 20, 2, 8), (8, .if_icmp .le 9, 3, 11), (11, .aload_n 0, 1, 12), (12, .iconst 0, 1, 13), (13, .invokevirtual 66, 3, 16), (16, .ireturn, 1, 17), (17, .aload_n 0, 1, 18), (18, .getfield 10, 3, 21), (21, .getfield 106, 3, 24), (24, .iload_n 1, 1, 25), (25, .iadd, 1, 26), (26, .ldc 110, 2, 28), (28, .if_icmp .le 9, 3, 31), (31, .aload_n 0, 1, 32), (32, .iconst 4, 1, 33), (33, .invokevirtual 66, 3, 36), (36, .ireturn, 1, 37), (37, .iconst 0, 1, 38), (38, .istore_n 2, 1, 39), (39, .iload_n 2, 1, 40), (40, .iload_n 1, 1, 41), (41, .if_icmp .ge 53, 3, 44), (44, .aload_n 0, 1, 45), (45, .getfield 10, 3, 48), (48, .iconst 0, 1, 49), (49, .aload_n 0, 1, 50), (50, .getfield 10, 3, 53), (53, .invokevirtual 163, 3, 56)], [(56, .bipush 16, 2, 58), (58, .irem, 1, 59), (59, .invokevirtual 72, 3, 62), (62, .aload_n 0, 1, 63), (63, .getfield 10, 3, 66), (66, .iconst 3, 1, 67), (67, .aload_n 0, 1, 68), (68, .getfield 10, 3, 71), (71, .invokevirtual 163, 3, 74), (74, .bipush 21, 2, 76), (76, .irem, 1, 77), (77, .invokevirtual 72, 3, 80), (80, .aload_n 0, 1, 81), (81, .getfield 10, 3, 84), (84, .iconst 1, 1, 85), (85, .invokevirtual 111, 3, 88), (88, .iinc 2 1, 3, 91), (91, .goto (-52), 3, 94), (94, .aload_n 0, 1, 95), (95, .getfield 10, 3, 98), (98, .iconst 5, 1, 99), (99, .iconst 1, 1, 100), (100, .invokevirtual 115, 3, 103), (103, .ireturn, 1, 104)]])
theorem ocX6_calls_0 : ((mX6_calls.2.2.2.2.2.2.getD 0 []).all fun e => decide (decode mX6_calls.2.1 e.1 = .ok (e.2.1, e.2.2.1)) && decide (e.2.2.2 = e.1 + e.2.2.1)) = true := by decide +kernel
theorem ocX6_calls_1 : ((mX6_calls.2.2.2.2.2.2.getD 1 []).all fun e => decide (decode mX6_calls.2.1 e.1 = .ok (e.2.1, e.2.2.1)) && decide (e.2.2.2 = e.1 + e.2.2.1)) = true := by decide +kernel
theorem odX6_calls : ic_okd mX6_calls = true := List.all_eq_true.mpr (List.forall_mem_cons.mpr ⟨ocX6_calls_0, List.forall_mem_cons.mpr ⟨ocX6_calls_1, fun _ hh => absurd hh List.not_mem_nil⟩⟩)
def mX6_odds : ic_M := (⟨"IronCall", "odds", "(IIII)J"⟩, prog_1_method_25_code, 7, (some .long), 4, 95, [[(0, .aload_n 0, 1, 1), (1, .getfield 10, 3, 4), (4, .iload_n 1, 1, 5), (5, .invokevirtual 90, 3, 8), (8, .ifCond .eq 34, 3, 11), (11, .iload_n 2, 1, 12), (12, .ifCond .lt 30, 3, 15), (15, .iload_n 2, 1, 16), (16, .bipush 99, 2, 18), (18, .if_icmp .gt 24, 3, 21), (21, .iload_n 3, 1, 22), (22, .ifCond .lt 20, 3, 25), (25, .iload_n 3, 1, 26), (26, .bipush 15, 2, 28), (28, .if_icmp .gt 14, 3, 31), (31, .iload 4, 2, 33), (33, .ifCond .lt 9, 3, 36), (36, .iload 4, 2, 38), (38, .iconst 1, 1, 39), (39, .if_icmp .le 10, 3, 42), (42, .aload_n 0, 1, 43), (43, .iconst 0, 1, 44), (44, .invokevirtual 66, 3, 47), (47, .i2l, 1, 48), (48, .lreturn, 1, 49), (49, .aload_n 0, 1, 50), (50, .getfield 10, 3, 53), (53, .iload_n 1, 1, 54), (54, .iload_n 2, 1, 55), (55, .invokevirtual 166, 3, 58), (58, .istore 5, 2, 60), (60, .bipush 16, 2, 62)], [(62, .istore 6, 2, 64), (64, .iload 6, 2, 66), (66, .iconst 1, 1, 67), (67, .if_icmp .le 25, 3, 70), (70, .iload 5, 2, 72), (72, .iconst 2, 1, 73), (73, .irem, 1, 74), (74, .ifCond .ne 18, 3, 77), (77, .iload 5, 2, 79), (79, .iconst 2, 1, 80), (80, .idiv, 1, 81), (81, .istore 5, 2, 83), (83, .iload 6, 2, 85), (85, .iconst 2, 1, 86), (86, .idiv, 1, 87), (87, .istore 6, 2, 89), (89, .goto (-25), 3, 92), (92, .iload 4, 2, 94), (94, .ifCond .ne 8, 3, 97), (97, .iload 5, 2, 99), (99, .goto 5, 3, 102), (102, .iload 6, 2, 104), (104, .iload_n 3, 1, 105), (105, .invokestatic 169, 3, 108), (108, .lreturn, 1, 109)]])
theorem ocX6_odds_0 : ((mX6_odds.2.2.2.2.2.2.getD 0 []).all fun e => decide (decode mX6_odds.2.1 e.1 = .ok (e.2.1, e.2.2.1)) && decide (e.2.2.2 = e.1 + e.2.2.1)) = true := by decide +kernel
theorem ocX6_odds_1 : ((mX6_odds.2.2.2.2.2.2.getD 1 []).all fun e => decide (decode mX6_odds.2.1 e.1 = .ok (e.2.1, e.2.2.1)) && decide (e.2.2.2 = e.1 + e.2.2.1)) = true := by decide +kernel
theorem odX6_odds : ic_okd mX6_odds = true := List.all_eq_true.mpr (List.forall_mem_cons.mpr ⟨ocX6_odds_0, List.forall_mem_cons.mpr ⟨ocX6_odds_1, fun _ hh => absurd hh List.not_mem_nil⟩⟩)
def mX6_seed : ic_M := (⟨"IronCall", "seed", "(I)I"⟩, prog_1_method_26_code, 3, (some .int), 0, 0, [[(0, .aload_n 0, 1, 1), (1, .getfield 10, 3, 4), (4, .getfield 173, 3, 7), (7, .istore_n 2, 1, 8), (8, .aload_n 0, 1, 9), (9, .getfield 10, 3, 12), (12, .iload_n 1, 1, 13), (13, .putfield 173, 3, 16), (16, .iload_n 2, 1, 17), (17, .ireturn, 1, 18)]])
theorem odX6_seed : ic_okd mX6_seed = true := by decide +kernel
def mX6_feed : ic_M := (⟨"IronCall", "feed", "(II)I"⟩, prog_1_method_27_code, 4, (some .int), 1, 21, [[(0, .iload_n 2, 1, 1), (1, .iconst 1, 1, 2), (2, .if_icmp .lt 8, 3, 5), (5, .iload_n 2, 1, 6), (6, .iconst 4, 1, 7), (7, .if_icmp .le 9, 3, 10), (10, .aload_n 0, 1, 11), (11, .iconst 0, 1, 12), (12, .invokevirtual 66, 3, 15), (15, .ireturn, 1, 16), (16, .aload_n 0, 1, 17), (17, .getfield 29, 3, 20), (20, .getfield 176, 3, 23), (23, .iload_n 2, 1, 24), (24, .iadd, 1, 25), (25, .bipush 120, 2, 27), (27, .if_icmp .le 9, 3, 30), (30, .aload_n 0, 1, 31), (31, .iconst 1, 1, 32), (32, .invokevirtual 66, 3, 35), (35, .ireturn, 1, 36), (36, .iload_n 2, 1, 37), (37, .iconst 1, 1, 38), (38, .isub, 1, 39), (39, .istore_n 3, 1, 40), (40, .iload_n 3, 1, 41), (41, .ifCond .lt 26, 3, 44), (44, .aload_n 0, 1, 45), (45, .getfield 29, 3, 48), (48, .iload_n 1, 1, 49), (49, .bipush 8, 2, 51), (51, .iload_n 3, 1, 52)], [(52, .imul, 1, 53), (53, .ishr, 1, 54), (54, .sipush 255, 3, 57), (57, .iand, 1, 58), (58, .invokevirtual 179, 3, 61), (61, .iinc 3 (-1), 3, 64), (64, .goto (-24), 3, 67), (67, .aload_n 0, 1, 68), (68, .getfield 29, 3, 71), (71, .getfield 176, 3, 74), (74, .ireturn, 1, 75)]])
theorem ocX6_feed_0 : ((mX6_feed.2.2.2.2.2.2.getD 0 []).all fun e => decide (decode mX6_feed.2.1 e.1 = .ok (e.2.1, e.2.2.1)) && decide (e.2.2.2 = e.1 + e.2.2.1)) = true := by decide +kernel
theorem ocX6_feed_1 : ((mX6_feed.2.2.2.2.2.2.getD 1 []).all fun e => decide (decode mX6_feed.2.1 e.1 = .ok (e.2.1, e.2.2.1)) && decide (e.2.2.2 = e.1 + e.2.2.1)) = true := by decide +kernel
theorem odX6_feed : ic_okd mX6_feed = true := List.all_eq_true.mpr (List.forall_mem_cons.mpr ⟨ocX6_feed_0, List.forall_mem_cons.mpr ⟨ocX6_feed_1, fun _ hh => absurd hh List.not_mem_nil⟩⟩)
def mX6_wipe : ic_M := (⟨"IronCall", "wipe", "()I"⟩, prog_1_method_28_code, 2, (some .int), 0, 0, [[(0, .aload_n 0, 1, 1), (1, .getfield 29, 3, 4), (4, .getfield 176, 3, 7), (7, .istore_n 1, 1, 8), (8, .aload_n 0, 1, 9), (9, .getfield 29, 3, 12), (12, .iconst 0, 1, 13), (13, .putfield 176, 3, 16), (16, .iload_n 1, 1, 17), (17, .ireturn, 1, 18)]])
theorem odX6_wipe : ic_okd mX6_wipe = true := by decide +kernel
def mX6_text : ic_M := (⟨"IronCall", "text", "()I"⟩, prog_1_method_29_code, 2, (some .int), 9, 197, [[(0, .aload_n 0, 1, 1), (1, .invokevirtual 131, 3, 4), (4, .aload_n 0, 1, 5), (5, .getfield 38, 3, 8), (8, .invokevirtual 182, 3, 11), (11, .aload_n 0, 1, 12), (12, .getfield 47, 3, 15), (15, .invokevirtual 185, 3, 18), (18, .istore_n 1, 1, 19), (19, .aload_n 0, 1, 20), (20, .getfield 29, 3, 23), (23, .iconst 0, 1, 24), (24, .putfield 176, 3, 27), (27, .iload_n 1, 1, 28), (28, .ifCond .lt 14, 3, 31), (31, .aload_n 0, 1, 32), (32, .getfield 10, 3, 35), (35, .aload_n 0, 1, 36), (36, .getfield 16, 3, 39), (39, .invokevirtual 188, 3, 42), (42, .iload_n 1, 1, 43), (43, .ireturn, 1, 44)]])
theorem odX6_text : ic_okd mX6_text = true := by decide +kernel
def mX6_hold : ic_M := (⟨"IronCall", "hold", "(II)I"⟩, prog_1_method_30_code, 4, (some .int), 1, 22, [[(0, .iload_n 2, 1, 1), (1, .iconst (-1), 1, 2), (2, .if_icmp .eq 14, 3, 5), (5, .aload_n 0, 1, 6), (6, .getfield 10, 3, 9), (9, .iload_n 2, 1, 10), (10, .invokevirtual 90, 3, 13), (13, .ifCond .eq 7, 3, 16), (16, .iconst 1, 1, 17), (17, .goto 4, 3, 20), (20, .iconst 0, 1, 21), (21, .istore_n 3, 1, 22), (22, .aload_n 0, 1, 23), (23, .getfield 10, 3, 26), (26, .iload_n 1, 1, 27), (27, .invokevirtual 192, 3, 30), (30, .ifCond .eq 7, 3, 33), (33, .iload_n 3, 1, 34), (34, .ifCond .ne 9, 3, 37), (37, .aload_n 0, 1, 38), (38, .iconst 0, 1, 39), (39, .invokevirtual 66, 3, 42), (42, .ireturn, 1, 43), (43, .aload_n 0, 1, 44), (44, .getfield 10, 3, 47), (47, .iload_n 1, 1, 48), (48, .iload_n 2, 1, 49), (49, .invokevirtual 195, 3, 52), (52, .iconst 1, 1, 53), (53, .ireturn, 1, 54)]])
theorem odX6_hold : ic_okd mX6_hold = true := by decide +kernel
def mX6_as : ic_M := (⟨"IronCall", "as", "(II)I"⟩, prog_1_method_31_code, 4, (some .int), 3, 66, [[(0, .aload_n 0, 1, 1), (1, .getfield 10, 3, 4), (4, .iload_n 1, 1, 5), (5, .invokevirtual 192, 3, 8), (8, .ifCond .eq 10, 3, 11), (11, .iload_n 2, 1, 12), (12, .invokestatic 76, 3, 15), (15, .ifCond .ne 9, 3, 18), (18, .aload_n 0, 1, 19), (19, .iconst 0, 1, 20), (20, .invokevirtual 66, 3, 23), (23, .ireturn, 1, 24), (24, .aload_n 0, 1, 25), (25, .getfield 10, 3, 28), (28, .iload_n 1, 1, 29), (29, .invokevirtual 198, 3, 32), (32, .istore_n 3, 1, 33), (33, .iload_n 3, 1, 34), (34, .iconst (-1), 1, 35), (35, .if_icmp .ne 9, 3, 38), (38, .aload_n 0, 1, 39), (39, .iconst 5, 1, 40), (40, .invokevirtual 66, 3, 43), (43, .ireturn, 1, 44), (44, .aload_n 0, 1, 45), (45, .getfield 10, 3, 48), (48, .iload_n 3, 1, 49), (49, .iload_n 2, 1, 50), (50, .invokevirtual 201, 3, 53), (53, .ifCond .eq 7, 3, 56), (56, .iload_n 3, 1, 57), (57, .goto 8, 3, 60)], [(60, .aload_n 0, 1, 61), (61, .iconst 2, 1, 62), (62, .invokevirtual 66, 3, 65), (65, .ireturn, 1, 66)]])
theorem ocX6_as_0 : ((mX6_as.2.2.2.2.2.2.getD 0 []).all fun e => decide (decode mX6_as.2.1 e.1 = .ok (e.2.1, e.2.2.1)) && decide (e.2.2.2 = e.1 + e.2.2.1)) = true := by decide +kernel
theorem ocX6_as_1 : ((mX6_as.2.2.2.2.2.2.getD 1 []).all fun e => decide (decode mX6_as.2.1 e.1 = .ok (e.2.1, e.2.2.1)) && decide (e.2.2.2 = e.1 + e.2.2.1)) = true := by decide +kernel
theorem odX6_as : ic_okd mX6_as = true := List.all_eq_true.mpr (List.forall_mem_cons.mpr ⟨ocX6_as_0, List.forall_mem_cons.mpr ⟨ocX6_as_1, fun _ hh => absurd hh List.not_mem_nil⟩⟩)
def mX6_sheet : ic_M := (⟨"IronCall", "sheet", "(III)I"⟩, prog_1_method_32_code, 5, (some .int), 1, 23, [[(0, .aload_n 0, 1, 1), (1, .iload_n 1, 1, 2), (2, .invokevirtual 204, 3, 5), (5, .astore 4, 2, 7), (7, .aload 4, 2, 9), (9, .ifnull 25, 3, 12), (12, .iload_n 2, 1, 13), (13, .ifCond .eq 27, 3, 16), (16, .iload_n 2, 1, 17), (17, .bipush 8, 2, 19), (19, .if_icmp .eq 21, 3, 22), (22, .iload_n 2, 1, 23), (23, .bipush 16, 2, 25), (25, .if_icmp .eq 15, 3, 28), (28, .iload_n 2, 1, 29), (29, .bipush 32, 2, 31), (31, .if_icmp .eq 9, 3, 34), (34, .aload_n 0, 1, 35), (35, .iconst 0, 1, 36), (36, .invokevirtual 66, 3, 39), (39, .ireturn, 1, 40), (40, .iload_n 3, 1, 41), (41, .ifCond .ge 10, 3, 44), (44, .aload_n 0, 1, 45), (45, .bipush 6, 2, 47), (47, .invokevirtual 66, 3, 50), (50, .ireturn, 1, 51), (51, .iload_n 3, 1, 52), (52, .bipush 40, 2, 54), (54, .if_icmp .le 9, 3, 57), (57, .aload_n 0, 1, 58), (58, .iconst 0, 1, 59)], [(59, .invokevirtual 66, 3, 62), (62, .ireturn, 1, 63), (63, .aload 4, 2, 65), (65, .iload_n 2, 1, 66), (66, .iload_n 3, 1, 67), (67, .invokevirtual 208, 3, 70), (70, .aload 4, 2, 72), (72, .getfield 211, 3, 75), (75, .ireturn, 1, 76)]])
theorem ocX6_sheet_0 : ((mX6_sheet.2.2.2.2.2.2.getD 0 []).all fun e => decide (decode mX6_sheet.2.1 e.1 = .ok (e.2.1, e.2.2.1)) && decide (e.2.2.2 = e.1 + e.2.2.1)) = true := by decide +kernel
theorem ocX6_sheet_1 : ((mX6_sheet.2.2.2.2.2.2.getD 1 []).all fun e => decide (decode mX6_sheet.2.1 e.1 = .ok (e.2.1, e.2.2.1)) && decide (e.2.2.2 = e.1 + e.2.2.1)) = true := by decide +kernel
theorem odX6_sheet : ic_okd mX6_sheet = true := List.all_eq_true.mpr (List.forall_mem_cons.mpr ⟨ocX6_sheet_0, List.forall_mem_cons.mpr ⟨ocX6_sheet_1, fun _ hh => absurd hh List.not_mem_nil⟩⟩)
def mX6_write : ic_M := (⟨"IronCall", "write", "(III)I"⟩, prog_1_method_33_code, 5, (some .int), 1, 22, [[(0, .aload_n 0, 1, 1), (1, .iload_n 1, 1, 2), (2, .invokevirtual 204, 3, 5), (5, .astore 4, 2, 7), (7, .aload 4, 2, 9), (9, .ifnonnull 9, 3, 12), (12, .aload_n 0, 1, 13), (13, .iconst 0, 1, 14), (14, .invokevirtual 66, 3, 17), (17, .ireturn, 1, 18), (18, .aload 4, 2, 20), (20, .invokevirtual 212, 3, 23), (23, .ifCond .eq 9, 3, 26), (26, .aload_n 0, 1, 27), (27, .iconst 5, 1, 28), (28, .invokevirtual 66, 3, 31), (31, .ireturn, 1, 32), (32, .iload_n 2, 1, 33), (33, .ifCond .lt 12, 3, 36), (36, .iload_n 2, 1, 37), (37, .aload 4, 2, 39), (39, .getfield 211, 3, 42), (42, .if_icmp .lt 9, 3, 45), (45, .aload_n 0, 1, 46), (46, .iconst 0, 1, 47), (47, .invokevirtual 66, 3, 50), (50, .ireturn, 1, 51), (51, .aload 4, 2, 53), (53, .iload_n 2, 1, 54), (54, .iload_n 3, 1, 55), (55, .invokevirtual 216, 3, 58), (58, .iconst 1, 1, 59)], [(59, .ireturn, 1, 60)]])
theorem ocX6_write_0 : ((mX6_write.2.2.2.2.2.2.getD 0 []).all fun e => decide (decode mX6_write.2.1 e.1 = .ok (e.2.1, e.2.2.1)) && decide (e.2.2.2 = e.1 + e.2.2.1)) = true := by decide +kernel
theorem ocX6_write_1 : ((mX6_write.2.2.2.2.2.2.getD 1 []).all fun e => decide (decode mX6_write.2.1 e.1 = .ok (e.2.1, e.2.2.1)) && decide (e.2.2.2 = e.1 + e.2.2.1)) = true := by decide +kernel
theorem odX6_write : ic_okd mX6_write = true := List.all_eq_true.mpr (List.forall_mem_cons.mpr ⟨ocX6_write_0, List.forall_mem_cons.mpr ⟨ocX6_write_1, fun _ hh => absurd hh List.not_mem_nil⟩⟩)
def mX6_copy : ic_M := (⟨"IronCall", "copy", "(IIIII)I"⟩, prog_1_method_34_code, 8, (some .int), 1, 26, [[(0, .aload_n 0, 1, 1), (1, .iload_n 1, 1, 2), (2, .invokevirtual 204, 3, 5), (5, .astore 6, 2, 7), (7, .aload_n 0, 1, 8), (8, .iload_n 3, 1, 9), (9, .invokevirtual 204, 3, 12), (12, .astore 7, 2, 14), (14, .aload 6, 2, 16), (16, .ifnull 8, 3, 19), (19, .aload 7, 2, 21), (21, .ifnonnull 9, 3, 24), (24, .aload_n 0, 1, 25), (25, .iconst 0, 1, 26), (26, .invokevirtual 66, 3, 29), (29, .ireturn, 1, 30), (30, .aload 6, 2, 32), (32, .invokevirtual 212, 3, 35), (35, .ifCond .ne 11, 3, 38), (38, .aload 7, 2, 40), (40, .invokevirtual 212, 3, 43), (43, .ifCond .eq 9, 3, 46), (46, .aload_n 0, 1, 47), (47, .iconst 5, 1, 48), (48, .invokevirtual 66, 3, 51), (51, .ireturn, 1, 52), (52, .aload 6, 2, 54), (54, .getfield 219, 3, 57), (57, .aload 7, 2, 59), (59, .getfield 219, 3, 62), (62, .if_icmp .eq 9, 3, 65), (65, .aload_n 0, 1, 66)], [(66, .iconst 2, 1, 67), (67, .invokevirtual 66, 3, 70), (70, .ireturn, 1, 71), (71, .aload 6, 2, 73), (73, .iload_n 2, 1, 74), (74, .iload 5, 2, 76), (76, .invokevirtual 222, 3, 79), (79, .ifCond .eq 15, 3, 82), (82, .aload 7, 2, 84), (84, .iload 4, 2, 86), (86, .iload 5, 2, 88), (88, .invokevirtual 222, 3, 91), (91, .ifCond .ne 9, 3, 94), (94, .aload_n 0, 1, 95), (95, .iconst 0, 1, 96), (96, .invokevirtual 66, 3, 99), (99, .ireturn, 1, 100), (100, .aload 6, 2, 102), (102, .getfield 225, 3, 105), (105, .iload_n 2, 1, 106), (106, .aload 7, 2, 108), (108, .getfield 225, 3, 111), (111, .iload 4, 2, 113), (113, .iload 5, 2, 115), (115, .invokestatic 228, 3, 118), (118, .iload 5, 2, 120), (120, .ireturn, 1, 121)]])
theorem ocX6_copy_0 : ((mX6_copy.2.2.2.2.2.2.getD 0 []).all fun e => decide (decode mX6_copy.2.1 e.1 = .ok (e.2.1, e.2.2.1)) && decide (e.2.2.2 = e.1 + e.2.2.1)) = true := by decide +kernel
theorem ocX6_copy_1 : ((mX6_copy.2.2.2.2.2.2.getD 1 []).all fun e => decide (decode mX6_copy.2.1 e.1 = .ok (e.2.1, e.2.2.1)) && decide (e.2.2.2 = e.1 + e.2.2.1)) = true := by decide +kernel
theorem odX6_copy : ic_okd mX6_copy = true := List.all_eq_true.mpr (List.forall_mem_cons.mpr ⟨ocX6_copy_0, List.forall_mem_cons.mpr ⟨ocX6_copy_1, fun _ hh => absurd hh List.not_mem_nil⟩⟩)
def mX6_load : ic_M := (⟨"IronCall", "load", "(I)I"⟩, prog_1_method_35_code, 5, (some .int), 2, 46, [[(0, .aload_n 0, 1, 1), (1, .iload_n 1, 1, 2), (2, .invokevirtual 204, 3, 5), (5, .astore_n 2, 1, 6), (6, .aload_n 2, 1, 7), (7, .ifnonnull 9, 3, 10), (10, .aload_n 0, 1, 11), (11, .iconst 0, 1, 12), (12, .invokevirtual 66, 3, 15), (15, .ireturn, 1, 16), (16, .aload_n 2, 1, 17), (17, .invokevirtual 212, 3, 20), (20, .ifCond .eq 9, 3, 23), (23, .aload_n 0, 1, 24), (24, .iconst 5, 1, 25), (25, .invokevirtual 66, 3, 28), (28, .ireturn, 1, 29), (29, .iconst 0, 1, 30), (30, .istore_n 3, 1, 31), (31, .iload_n 3, 1, 32), (32, .aload_n 2, 1, 33), (33, .getfield 211, 3, 36), (36, .if_icmp .ge 53, 3, 39), (39, .aload_n 2, 1, 40), (40, .iload_n 3, 1, 41), (41, .invokevirtual 234, 3, 44), (44, .istore 4, 2, 46), (46, .aload_n 0, 1, 47), (47, .getfield 10, 3, 50), (50, .iload_n 3, 1, 51), (51, .invokevirtual 90, 3, 54), (54, .ifCond .eq 16, 3, 57)], [(57, .iload 4, 2, 59), (59, .iconst 1, 1, 60), (60, .if_icmp .lt 10, 3, 63), (63, .iload 4, 2, 65), (65, .bipush 99, 2, 67), (67, .if_icmp .le 5, 3, 70), (70, .iload_n 3, 1, 71), (71, .ireturn, 1, 72), (72, .aload_n 0, 1, 73), (73, .getfield 10, 3, 76), (76, .iload_n 3, 1, 77), (77, .iconst 2, 1, 78), (78, .iload 4, 2, 80), (80, .invokevirtual 99, 3, 83), (83, .iinc 3 1, 3, 86), (86, .goto (-55), 3, 89), (89, .aload_n 2, 1, 90), (90, .getfield 211, 3, 93), (93, .ireturn, 1, 94)]])
theorem ocX6_load_0 : ((mX6_load.2.2.2.2.2.2.getD 0 []).all fun e => decide (decode mX6_load.2.1 e.1 = .ok (e.2.1, e.2.2.1)) && decide (e.2.2.2 = e.1 + e.2.2.1)) = true := by decide +kernel
theorem ocX6_load_1 : ((mX6_load.2.2.2.2.2.2.getD 1 []).all fun e => decide (decode mX6_load.2.1 e.1 = .ok (e.2.1, e.2.2.1)) && decide (e.2.2.2 = e.1 + e.2.2.1)) = true := by decide +kernel
theorem odX6_load : ic_okd mX6_load = true := List.all_eq_true.mpr (List.forall_mem_cons.mpr ⟨ocX6_load_0, List.forall_mem_cons.mpr ⟨ocX6_load_1, fun _ hh => absurd hh List.not_mem_nil⟩⟩)
def mX6_judge : ic_M := (⟨"IronCall", "judge", "(I)I"⟩, prog_1_method_36_code, 4, (some .int), 4, 94, [[(0, .aload_n 0, 1, 1), (1, .iload_n 1, 1, 2), (2, .invokevirtual 204, 3, 5), (5, .astore_n 2, 1, 6), (6, .aload_n 2, 1, 7), (7, .ifnonnull 9, 3, 10), (10, .aload_n 0, 1, 11), (11, .iconst 0, 1, 12), (12, .invokevirtual 66, 3, 15), (15, .ireturn, 1, 16), (16, .aload_n 2, 1, 17), (17, .invokevirtual 212, 3, 20), (20, .ifCond .eq 9, 3, 23), (23, .aload_n 0, 1, 24), (24, .iconst 5, 1, 25), (25, .invokevirtual 66, 3, 28), (28, .ireturn, 1, 29), (29, .iconst 0, 1, 30), (30, .istore_n 3, 1, 31), (31, .iload_n 3, 1, 32), (32, .aload_n 2, 1, 33), (33, .getfield 211, 3, 36), (36, .if_icmp .ge 41, 3, 39), (39, .aload_n 0, 1, 40), (40, .getfield 10, 3, 43), (43, .iload_n 3, 1, 44), (44, .invokevirtual 90, 3, 47), (47, .ifCond .eq 20, 3, 50), (50, .aload_n 0, 1, 51), (51, .getfield 10, 3, 54), (54, .iload_n 3, 1, 55), (55, .iconst 1, 1, 56)], [(56, .invokevirtual 87, 3, 59), (59, .aload_n 2, 1, 60), (60, .iload_n 3, 1, 61), (61, .invokevirtual 234, 3, 64), (64, .if_icmp .eq 7, 3, 67), (67, .iconst 1, 1, 68), (68, .iload_n 3, 1, 69), (69, .iadd, 1, 70), (70, .ireturn, 1, 71), (71, .iinc 3 1, 3, 74), (74, .goto (-43), 3, 77), (77, .iconst 0, 1, 78), (78, .ireturn, 1, 79)]])
theorem ocX6_judge_0 : ((mX6_judge.2.2.2.2.2.2.getD 0 []).all fun e => decide (decode mX6_judge.2.1 e.1 = .ok (e.2.1, e.2.2.1)) && decide (e.2.2.2 = e.1 + e.2.2.1)) = true := by decide +kernel
theorem ocX6_judge_1 : ((mX6_judge.2.2.2.2.2.2.getD 1 []).all fun e => decide (decode mX6_judge.2.1 e.1 = .ok (e.2.1, e.2.2.1)) && decide (e.2.2.2 = e.1 + e.2.2.1)) = true := by decide +kernel
theorem odX6_judge : ic_okd mX6_judge = true := List.all_eq_true.mpr (List.forall_mem_cons.mpr ⟨ocX6_judge_0, List.forall_mem_cons.mpr ⟨ocX6_judge_1, fun _ hh => absurd hh List.not_mem_nil⟩⟩)
def mX6_image : ic_M := (⟨"IronCall", "image", "()I"⟩, prog_1_method_37_code, 1, (some .int), 2, 45, [[(0, .aload_n 0, 1, 1), (1, .getfield 19, 3, 4), (4, .aload_n 0, 1, 5), (5, .getfield 10, 3, 8), (8, .invokevirtual 188, 3, 11), (11, .aload_n 0, 1, 12), (12, .iconst 1, 1, 13), (13, .putfield 22, 3, 16), (16, .iconst 1, 1, 17), (17, .ireturn, 1, 18)]])
theorem odX6_image : ic_okd mX6_image = true := by decide +kernel
def mX6_undo : ic_M := (⟨"IronCall", "undo", "()I"⟩, prog_1_method_38_code, 1, (some .int), 2, 45, [[(0, .aload_n 0, 1, 1), (1, .getfield 22, 3, 4), (4, .ifCond .ne 9, 3, 7), (7, .aload_n 0, 1, 8), (8, .iconst 3, 1, 9), (9, .invokevirtual 66, 3, 12), (12, .ireturn, 1, 13), (13, .aload_n 0, 1, 14), (14, .getfield 10, 3, 17), (17, .aload_n 0, 1, 18), (18, .getfield 19, 3, 21), (21, .invokevirtual 188, 3, 24), (24, .aload_n 0, 1, 25), (25, .getfield 10, 3, 28), (28, .getfield 106, 3, 31), (31, .ireturn, 1, 32)]])
theorem odX6_undo : ic_okd mX6_undo = true := by decide +kernel
def mX6_tear : ic_M := (⟨"IronCall", "tear", "()I"⟩, prog_1_method_39_code, 2, (some .int), 0, 0, [[(0, .aload_n 0, 1, 1), (1, .getfield 22, 3, 4), (4, .ifCond .eq 7, 3, 7), (7, .iconst 1, 1, 8), (8, .goto 4, 3, 11), (11, .iconst 0, 1, 12), (12, .istore_n 1, 1, 13), (13, .aload_n 0, 1, 14), (14, .iconst 0, 1, 15), (15, .putfield 22, 3, 18), (18, .iload_n 1, 1, 19), (19, .ireturn, 1, 20)]])
theorem odX6_tear : ic_okd mX6_tear = true := by decide +kernel
def mX6_count : ic_M := (⟨"IronCall", "count", "(I)I"⟩, prog_1_method_40_code, 2, (some .int), 3, 67, [[(0, .iload_n 1, 1, 1), (1, .tableswitch 115 0 7 #[47, 55, 63, 72, 81, 91, 99, 107], 47, 48), (48, .aload_n 0, 1, 49), (49, .getfield 10, 3, 52), (52, .getfield 106, 3, 55), (55, .ireturn, 1, 56), (56, .aload_n 0, 1, 57), (57, .getfield 10, 3, 60), (60, .getfield 148, 3, 63), (63, .ireturn, 1, 64), (64, .aload_n 0, 1, 65), (65, .getfield 10, 3, 68), (68, .iconst 5, 1, 69), (69, .invokevirtual 118, 3, 72), (72, .ireturn, 1, 73), (73, .aload_n 0, 1, 74), (74, .getfield 10, 3, 77), (77, .iconst 3, 1, 78), (78, .invokevirtual 118, 3, 81), (81, .ireturn, 1, 82), (82, .aload_n 0, 1, 83), (83, .getfield 10, 3, 86), (86, .bipush 6, 2, 88), (88, .invokevirtual 118, 3, 91), (91, .ireturn, 1, 92), (92, .aload_n 0, 1, 93), (93, .getfield 29, 3, 96), (96, .getfield 176, 3, 99), (99, .ireturn, 1, 100), (100, .aload_n 0, 1, 101), (101, .getfield 10, 3, 104), (104, .getfield 173, 3, 107)], [(107, .ireturn, 1, 108), (108, .aload_n 0, 1, 109), (109, .getfield 10, 3, 112), (112, .invokevirtual 236, 3, 115), (115, .ireturn, 1, 116), (116, .aload_n 0, 1, 117), (117, .iconst 0, 1, 118), (118, .invokevirtual 66, 3, 121), (121, .ireturn, 1, 122)]])
theorem ocX6_count_0 : ((mX6_count.2.2.2.2.2.2.getD 0 []).all fun e => decide (decode mX6_count.2.1 e.1 = .ok (e.2.1, e.2.2.1)) && decide (e.2.2.2 = e.1 + e.2.2.1)) = true := by decide +kernel
theorem ocX6_count_1 : ((mX6_count.2.2.2.2.2.2.getD 1 []).all fun e => decide (decode mX6_count.2.1 e.1 = .ok (e.2.1, e.2.2.1)) && decide (e.2.2.2 = e.1 + e.2.2.1)) = true := by decide +kernel
theorem odX6_count : ic_okd mX6_count = true := List.all_eq_true.mpr (List.forall_mem_cons.mpr ⟨ocX6_count_0, List.forall_mem_cons.mpr ⟨ocX6_count_1, fun _ hh => absurd hh List.not_mem_nil⟩⟩)
def mX6_status : ic_M := (⟨"IronCall", "status", "(I)I"⟩, prog_1_method_41_code, 7, (some .int), 1, 21, [[(0, .iload_n 1, 1, 1), (1, .iconst (-1), 1, 2), (2, .if_icmp .lt 12, 3, 5), (5, .iload_n 1, 1, 6), (6, .aload_n 0, 1, 7), (7, .getfield 58, 3, 10), (10, .arraylength, 1, 11), (11, .if_icmp .lt 9, 3, 14), (14, .aload_n 0, 1, 15), (15, .iconst 0, 1, 16), (16, .invokevirtual 66, 3, 19), (19, .ireturn, 1, 20), (20, .iload_n 1, 1, 21), (21, .ifCond .lt 10, 3, 24), (24, .aload_n 0, 1, 25), (25, .getfield 58, 3, 28), (28, .iload_n 1, 1, 29), (29, .iaload, 1, 30), (30, .ireturn, 1, 31), (31, .iconst 0, 1, 32), (32, .istore_n 2, 1, 33), (33, .aload_n 0, 1, 34), (34, .getfield 58, 3, 37), (37, .astore_n 3, 1, 38), (38, .aload_n 3, 1, 39), (39, .arraylength, 1, 40), (40, .istore 4, 2, 42), (42, .iconst 0, 1, 43), (43, .istore 5, 2, 45), (45, .iload 5, 2, 47), (47, .iload 4, 2, 49), (49, .if_icmp .ge 20, 3, 52)], [(52, .aload_n 3, 1, 53), (53, .iload 5, 2, 55), (55, .iaload, 1, 56), (56, .istore 6, 2, 58), (58, .iload_n 2, 1, 59), (59, .iload 6, 2, 61), (61, .iadd, 1, 62), (62, .istore_n 2, 1, 63), (63, .iinc 5 1, 3, 66), (66, .goto (-21), 3, 69), (69, .iload_n 2, 1, 70), (70, .ireturn, 1, 71)]])
theorem ocX6_status_0 : ((mX6_status.2.2.2.2.2.2.getD 0 []).all fun e => decide (decode mX6_status.2.1 e.1 = .ok (e.2.1, e.2.2.1)) && decide (e.2.2.2 = e.1 + e.2.2.1)) = true := by decide +kernel
theorem ocX6_status_1 : ((mX6_status.2.2.2.2.2.2.getD 1 []).all fun e => decide (decode mX6_status.2.1 e.1 = .ok (e.2.1, e.2.2.1)) && decide (e.2.2.2 = e.1 + e.2.2.1)) = true := by decide +kernel
theorem odX6_status : ic_okd mX6_status = true := List.all_eq_true.mpr (List.forall_mem_cons.mpr ⟨ocX6_status_0, List.forall_mem_cons.mpr ⟨ocX6_status_1, fun _ hh => absurd hh List.not_mem_nil⟩⟩)
def mX6_finding : ic_M := (⟨"IronCall", "finding", "(I)I"⟩, prog_1_method_42_code, 2, (some .int), 0, 0, [[(0, .iload_n 1, 1, 1), (1, .ifCond .lt 22, 3, 4), (4, .iload_n 1, 1, 5), (5, .aload_n 0, 1, 6), (6, .getfield 58, 3, 9), (9, .arraylength, 1, 10), (10, .if_icmp .ge 13, 3, 13), (13, .aload_n 0, 1, 14), (14, .getfield 58, 3, 17), (17, .iload_n 1, 1, 18), (18, .dup2, 1, 19), (19, .iaload, 1, 20), (20, .iconst 1, 1, 21), (21, .iadd, 1, 22), (22, .iastore, 1, 23), (23, .ldc 239, 2, 25), (25, .iload_n 1, 1, 26), (26, .isub, 1, 27), (27, .ireturn, 1, 28)]])
theorem odX6_finding : ic_okd mX6_finding = true := by decide +kernel
def mX6_sheetAt : ic_M := (⟨"IronCall", "sheetAt", "(I)LIronCall$Sheet;"⟩, prog_1_method_43_code, 2, (some (.object "IronCall$Sheet")), 0, 0, [[(0, .iload_n 1, 1, 1), (1, .ifCond .lt 21, 3, 4), (4, .iload_n 1, 1, 5), (5, .aload_n 0, 1, 6), (6, .getfield 53, 3, 9), (9, .arraylength, 1, 10), (10, .if_icmp .ge 12, 3, 13), (13, .aload_n 0, 1, 14), (14, .getfield 53, 3, 17), (17, .iload_n 1, 1, 18), (18, .aaload, 1, 19), (19, .goto 4, 3, 22), (22, .aconst_null, 1, 23), (23, .areturn, 1, 24)]])
theorem odX6_sheetAt : ic_okd mX6_sheetAt = true := by decide +kernel
def mX6_startTrial : ic_M := (⟨"IronCall", "startTrial", "()V"⟩, prog_1_method_44_code, 1, none, 2, 45, [[(0, .aload_n 0, 1, 1), (1, .getfield 16, 3, 4), (4, .aload_n 0, 1, 5), (5, .getfield 10, 3, 8), (8, .invokevirtual 188, 3, 11), (11, .return_, 1, 12)]])
theorem odX6_startTrial : ic_okd mX6_startTrial = true := by decide +kernel
def mX6_fewestCalls : ic_M := (⟨"IronCall", "fewestCalls", "(IIII)I"⟩, prog_1_method_45_code, 7, (some .int), 5, 117, [[(0, .aload_n 0, 1, 1), (1, .invokevirtual 131, 3, 4), (4, .iconst 0, 1, 5), (5, .istore 5, 2, 7), (7, .iload 5, 2, 9), (9, .sipush 200, 3, 12), (12, .if_icmp .gt 44, 3, 15), (15, .aload_n 0, 1, 16), (16, .getfield 16, 3, 19), (19, .iload_n 1, 1, 20), (20, .iload_n 2, 1, 21), (21, .invokevirtual 87, 3, 24), (24, .istore 6, 2, 26), (26, .iload 6, 2, 28), (28, .iload_n 3, 1, 29), (29, .if_icmp .lt 13, 3, 32), (32, .iload 6, 2, 34), (34, .iload 4, 2, 36), (36, .if_icmp .gt 6, 3, 39), (39, .iload 5, 2, 41), (41, .ireturn, 1, 42), (42, .aload_n 0, 1, 43), (43, .getfield 16, 3, 46), (46, .iconst 1, 1, 47), (47, .invokevirtual 111, 3, 50), (50, .iinc 5 1, 3, 53), (53, .goto (-46), 3, 56), (56, .aload_n 0, 1, 57), (57, .iconst 3, 1, 58), (58, .invokevirtual 66, 3, 61), (61, .ireturn, 1, 62)]])
theorem odX6_fewestCalls : ic_okd mX6_fewestCalls = true := by decide +kernel
def mX6_furthestBy : ic_M := (⟨"IronCall", "furthestBy", "(III)I"⟩, prog_1_method_46_code, 8, (some .int), 5, 117, [[(0, .aload_n 0, 1, 1), (1, .getfield 10, 3, 4), (4, .iload_n 1, 1, 5), (5, .invokevirtual 90, 3, 8), (8, .ifCond .eq 10, 3, 11), (11, .iload_n 3, 1, 12), (12, .invokestatic 141, 3, 15), (15, .ifCond .ne 9, 3, 18), (18, .aload_n 0, 1, 19), (19, .iconst 0, 1, 20), (20, .invokevirtual 66, 3, 23), (23, .ireturn, 1, 24), (24, .iconst 0, 1, 25), (25, .istore 4, 2, 27), (27, .iconst (-1), 1, 28), (28, .istore 5, 2, 30), (30, .iconst 0, 1, 31), (31, .istore 6, 2, 33), (33, .iload 6, 2, 35), (35, .iload_n 2, 1, 36), (36, .invokestatic 96, 3, 39), (39, .if_icmp .gt 59, 3, 42), (42, .aload_n 0, 1, 43), (43, .invokevirtual 131, 3, 46), (46, .aload_n 0, 1, 47), (47, .getfield 16, 3, 50), (50, .iload_n 1, 1, 51), (51, .iload_n 2, 1, 52), (52, .iload 6, 2, 54), (54, .invokevirtual 99, 3, 57), (57, .aload_n 0, 1, 58), (58, .getfield 16, 3, 61)], [(61, .iload_n 3, 1, 62), (62, .invokevirtual 111, 3, 65), (65, .aload_n 0, 1, 66), (66, .getfield 16, 3, 69), (69, .iload_n 1, 1, 70), (70, .bipush 6, 2, 72), (72, .invokevirtual 87, 3, 75), (75, .istore 7, 2, 77), (77, .iload 7, 2, 79), (79, .iload 5, 2, 81), (81, .if_icmp .le 11, 3, 84), (84, .iload 7, 2, 86), (86, .istore 5, 2, 88), (88, .iload 6, 2, 90), (90, .istore 4, 2, 92), (92, .iinc 6 1, 3, 95), (95, .goto (-62), 3, 98), (98, .iload 4, 2, 100), (100, .ireturn, 1, 101)]])
theorem ocX6_furthestBy_0 : ((mX6_furthestBy.2.2.2.2.2.2.getD 0 []).all fun e => decide (decode mX6_furthestBy.2.1 e.1 = .ok (e.2.1, e.2.2.1)) && decide (e.2.2.2 = e.1 + e.2.2.1)) = true := by decide +kernel
theorem ocX6_furthestBy_1 : ((mX6_furthestBy.2.2.2.2.2.2.getD 1 []).all fun e => decide (decode mX6_furthestBy.2.1 e.1 = .ok (e.2.1, e.2.2.1)) && decide (e.2.2.2 = e.1 + e.2.2.1)) = true := by decide +kernel
theorem odX6_furthestBy : ic_okd mX6_furthestBy = true := List.all_eq_true.mpr (List.forall_mem_cons.mpr ⟨ocX6_furthestBy_0, List.forall_mem_cons.mpr ⟨ocX6_furthestBy_1, fun _ hh => absurd hh List.not_mem_nil⟩⟩)
def mX6_savesAll : ic_M := (⟨"IronCall", "savesAll", "(II)Z"⟩, prog_1_method_47_code, 3, (some .boolean), 5, 117, [[(0, .aload_n 0, 1, 1), (1, .invokevirtual 131, 3, 4), (4, .aload_n 0, 1, 5), (5, .getfield 16, 3, 8), (8, .iload_n 1, 1, 9), (9, .invokevirtual 240, 3, 12), (12, .aload_n 0, 1, 13), (13, .getfield 16, 3, 16), (16, .iload_n 2, 1, 17), (17, .invokevirtual 111, 3, 20), (20, .aload_n 0, 1, 21), (21, .getfield 16, 3, 24), (24, .iconst 5, 1, 25), (25, .invokevirtual 118, 3, 28), (28, .aload_n 0, 1, 29), (29, .getfield 10, 3, 32), (32, .iconst 5, 1, 33), (33, .invokevirtual 118, 3, 36), (36, .if_icmp .gt 7, 3, 39), (39, .iconst 1, 1, 40), (40, .goto 4, 3, 43), (43, .iconst 0, 1, 44), (44, .ireturn, 1, 45)]])
theorem odX6_savesAll : ic_okd mX6_savesAll = true := by decide +kernel
def mX6_choicesAsTold : ic_M := (⟨"IronCall", "choicesAsTold", "(IIII)I"⟩, prog_1_method_48_code, 8, (some .int), 6, 142, [[(0, .aload_n 0, 1, 1), (1, .iload_n 1, 1, 2), (2, .invokevirtual 204, 3, 5), (5, .astore 5, 2, 7), (7, .aload 5, 2, 9), (9, .ifnonnull 9, 3, 12), (12, .aload_n 0, 1, 13), (13, .iconst 0, 1, 14), (14, .invokevirtual 66, 3, 17), (17, .ireturn, 1, 18), (18, .aload 5, 2, 20), (20, .invokevirtual 212, 3, 23), (23, .ifCond .eq 9, 3, 26), (26, .aload_n 0, 1, 27), (27, .iconst 5, 1, 28), (28, .invokevirtual 66, 3, 31), (31, .ireturn, 1, 32), (32, .aload_n 0, 1, 33), (33, .getfield 10, 3, 36), (36, .iload_n 2, 1, 37), (37, .invokevirtual 90, 3, 40), (40, .ifCond .ne 9, 3, 43), (43, .aload_n 0, 1, 44), (44, .iconst 0, 1, 45), (45, .invokevirtual 66, 3, 48), (48, .ireturn, 1, 49), (49, .iconst 0, 1, 50), (50, .istore 6, 2, 52), (52, .iconst 0, 1, 53), (53, .istore 7, 2, 55), (55, .iload 7, 2, 57), (57, .iload_n 3, 1, 58)], [(58, .invokestatic 96, 3, 61), (61, .if_icmp .gt 45, 3, 64), (64, .aload_n 0, 1, 65), (65, .invokevirtual 131, 3, 68), (68, .aload_n 0, 1, 69), (69, .getfield 16, 3, 72), (72, .iload_n 2, 1, 73), (73, .iload_n 3, 1, 74), (74, .iload 7, 2, 76), (76, .invokevirtual 99, 3, 79), (79, .aload_n 0, 1, 80), (80, .aload 5, 2, 82), (82, .iload_n 2, 1, 83), (83, .iload 4, 2, 85), (85, .invokevirtual 243, 3, 88), (88, .ifCond .eq 12, 3, 91), (91, .iload 6, 2, 93), (93, .iconst 1, 1, 94), (94, .iload 7, 2, 96), (96, .ishl, 1, 97), (97, .ior, 1, 98), (98, .istore 6, 2, 100), (100, .iinc 7 1, 3, 103), (103, .goto (-48), 3, 106), (106, .iload 6, 2, 108), (108, .ireturn, 1, 109)]])
theorem ocX6_choicesAsTold_0 : ((mX6_choicesAsTold.2.2.2.2.2.2.getD 0 []).all fun e => decide (decode mX6_choicesAsTold.2.1 e.1 = .ok (e.2.1, e.2.2.1)) && decide (e.2.2.2 = e.1 + e.2.2.1)) = true := by decide +kernel
theorem ocX6_choicesAsTold_1 : ((mX6_choicesAsTold.2.2.2.2.2.2.getD 1 []).all fun e => decide (decode mX6_choicesAsTold.2.1 e.1 = .ok (e.2.1, e.2.2.1)) && decide (e.2.2.2 = e.1 + e.2.2.1)) = true := by decide +kernel
theorem odX6_choicesAsTold : ic_okd mX6_choicesAsTold = true := List.all_eq_true.mpr (List.forall_mem_cons.mpr ⟨ocX6_choicesAsTold_0, List.forall_mem_cons.mpr ⟨ocX6_choicesAsTold_1, fun _ hh => absurd hh List.not_mem_nil⟩⟩)
def mX6_trialGoesAs : ic_M := (⟨"IronCall", "trialGoesAs", "(LIronCall$Sheet;II)Z"⟩, prog_1_method_49_code, 6, (some .boolean), 5, 117, [[(0, .aload_n 1, 1, 1), (1, .ifnonnull 5, 3, 4), (4, .iconst 0, 1, 5), (5, .ireturn, 1, 6), (6, .iconst 0, 1, 7), (7, .istore 4, 2, 9), (9, .iload 4, 2, 11), (11, .aload_n 1, 1, 12), (12, .getfield 211, 3, 15), (15, .if_icmp .ge 47, 3, 18), (18, .aload_n 1, 1, 19), (19, .iload 4, 2, 21), (21, .invokevirtual 234, 3, 24), (24, .istore 5, 2, 26), (26, .iload 5, 2, 28), (28, .iconst (-1), 1, 29), (29, .if_icmp .eq 19, 3, 32), (32, .iload 5, 2, 34), (34, .aload_n 0, 1, 35), (35, .getfield 16, 3, 38), (38, .iload_n 2, 1, 39), (39, .iload_n 3, 1, 40), (40, .invokevirtual 87, 3, 43), (43, .if_icmp .eq 5, 3, 46), (46, .iconst 0, 1, 47), (47, .ireturn, 1, 48), (48, .aload_n 0, 1, 49), (49, .getfield 16, 3, 52), (52, .iconst 1, 1, 53), (53, .invokevirtual 111, 3, 56), (56, .iinc 4 1, 3, 59), (59, .goto (-50), 3, 62)], [(62, .iconst 1, 1, 63), (63, .ireturn, 1, 64)]])
theorem ocX6_trialGoesAs_0 : ((mX6_trialGoesAs.2.2.2.2.2.2.getD 0 []).all fun e => decide (decode mX6_trialGoesAs.2.1 e.1 = .ok (e.2.1, e.2.2.1)) && decide (e.2.2.2 = e.1 + e.2.2.1)) = true := by decide +kernel
theorem ocX6_trialGoesAs_1 : ((mX6_trialGoesAs.2.2.2.2.2.2.getD 1 []).all fun e => decide (decode mX6_trialGoesAs.2.1 e.1 = .ok (e.2.1, e.2.2.1)) && decide (e.2.2.2 = e.1 + e.2.2.1)) = true := by decide +kernel
theorem odX6_trialGoesAs : ic_okd mX6_trialGoesAs = true := List.all_eq_true.mpr (List.forall_mem_cons.mpr ⟨ocX6_trialGoesAs_0, List.forall_mem_cons.mpr ⟨ocX6_trialGoesAs_1, fun _ hh => absurd hh List.not_mem_nil⟩⟩)
def mX6_isKind : ic_M := (⟨"IronCall", "isKind", "(I)Z"⟩, prog_1_method_50_code, 1, (some .boolean), 0, 0, [[(0, .iload_n 0, 1, 1), (1, .ifCond .lt 13, 3, 4), (4, .iload_n 0, 1, 5), (5, .bipush 7, 2, 7), (7, .if_icmp .ge 7, 3, 10), (10, .iconst 1, 1, 11), (11, .goto 4, 3, 14), (14, .iconst 0, 1, 15), (15, .ireturn, 1, 16)]])
theorem odX6_isKind : ic_okd mX6_isKind = true := by decide +kernel
def mX6_isCell : ic_M := (⟨"IronCall", "isCell", "(I)Z"⟩, prog_1_method_51_code, 1, (some .boolean), 0, 0, [[(0, .iload_n 0, 1, 1), (1, .ifCond .lt 13, 3, 4), (4, .iload_n 0, 1, 5), (5, .bipush 16, 2, 7), (7, .if_icmp .ge 7, 3, 10), (10, .iconst 1, 1, 11), (11, .goto 4, 3, 14), (14, .iconst 0, 1, 15), (15, .ireturn, 1, 16)]])
theorem odX6_isCell : ic_okd mX6_isCell = true := by decide +kernel
def mX6_isPlanned : ic_M := (⟨"IronCall", "isPlanned", "(I)Z"⟩, prog_1_method_52_code, 1, (some .boolean), 0, 0, [[(0, .iload_n 0, 1, 1), (1, .ifCond .lt 13, 3, 4), (4, .iload_n 0, 1, 5), (5, .bipush 60, 2, 7), (7, .if_icmp .gt 7, 3, 10), (10, .iconst 1, 1, 11), (11, .goto 4, 3, 14), (14, .iconst 0, 1, 15), (15, .ireturn, 1, 16)]])
theorem odX6_isPlanned : ic_okd mX6_isPlanned = true := by decide +kernel
def mX6_mostOfCart : ic_M := (⟨"IronCall", "mostOfCart", "(I)I"⟩, prog_1_method_53_code, 1, (some .int), 0, 0, [[(0, .iload_n 0, 1, 1), (1, .tableswitch 41 0 3 #[31, 34, 36, 38], 31, 32), (32, .bipush 15, 2, 34), (34, .ireturn, 1, 35), (35, .iconst 1, 1, 36), (36, .ireturn, 1, 37), (37, .iconst 3, 1, 38), (38, .ireturn, 1, 39), (39, .bipush 20, 2, 41), (41, .ireturn, 1, 42), (42, .iconst (-1), 1, 43), (43, .ireturn, 1, 44)]])
theorem odX6_mostOfCart : ic_okd mX6_mostOfCart = true := by decide +kernel
def mX6_leastOf : ic_M := (⟨"IronCall", "leastOf", "(I)I"⟩, prog_1_method_54_code, 1, (some .int), 0, 0, [[(0, .iload_n 0, 1, 1), (1, .iconst 2, 1, 2), (2, .if_icmp .ne 7, 3, 5), (5, .iconst 1, 1, 6), (6, .goto 4, 3, 9), (9, .iconst 0, 1, 10), (10, .ireturn, 1, 11)]])
theorem odX6_leastOf : ic_okd mX6_leastOf = true := by decide +kernel
def mX6_mostOf : ic_M := (⟨"IronCall", "mostOf", "(I)I"⟩, prog_1_method_55_code, 1, (some .int), 0, 0, [[(0, .iload_n 0, 1, 1), (1, .tableswitch 64 0 6 #[43, 46, 49, 52, 56, 58, 60], 43, 44), (44, .bipush 6, 2, 46), (46, .ireturn, 1, 47), (47, .bipush 15, 2, 49), (49, .ireturn, 1, 50), (50, .bipush 99, 2, 52), (52, .ireturn, 1, 53), (53, .sipush 999, 3, 56), (56, .ireturn, 1, 57), (57, .iconst 1, 1, 58), (58, .ireturn, 1, 59), (59, .iconst 1, 1, 60), (60, .ireturn, 1, 61), (61, .sipush 9999, 3, 64), (64, .ireturn, 1, 65), (65, .iconst (-1), 1, 66), (66, .ireturn, 1, 67)]])
theorem odX6_mostOf : ic_okd mX6_mostOf = true := by decide +kernel
def mX6_power : ic_M := (⟨"IronCall", "power", "(II)J"⟩, prog_1_method_56_code, 5, (some .long), 0, 0, [[(0, .lconst 1, 1, 1), (1, .lstore_n 2, 1, 2), (2, .iconst 0, 1, 3), (3, .istore 4, 2, 5), (5, .iload 4, 2, 7), (7, .iload_n 1, 1, 8), (8, .if_icmp .ge 14, 3, 11), (11, .lload_n 2, 1, 12), (12, .iload_n 0, 1, 13), (13, .i2l, 1, 14), (14, .lmul, 1, 15), (15, .lstore_n 2, 1, 16), (16, .iinc 4 1, 3, 19), (19, .goto (-14), 3, 22), (22, .lload_n 2, 1, 23), (23, .lreturn, 1, 24)]])
theorem odX6_power : ic_okd mX6_power = true := by decide +kernel
def mX7_finds : ic_M := (⟨"IronCallModel", "finds", "(I)I"⟩, prog_9_method_3_code, 2, (some .int), 0, 0, [[(0, .aload_n 0, 1, 1), (1, .getfield 22, 3, 4), (4, .iload_n 1, 1, 5), (5, .dup2, 1, 6), (6, .iaload, 1, 7), (7, .iconst 1, 1, 8), (8, .iadd, 1, 9), (9, .iastore, 1, 10), (10, .ldc 41, 2, 12), (12, .iload_n 1, 1, 13), (13, .isub, 1, 14), (14, .ireturn, 1, 15)]])
theorem odX7_finds : ic_okd mX7_finds = true := by decide +kernel
def mX7_in : ic_M := (⟨"IronCallModel", "in", "(JJJ)Z"⟩, prog_9_method_4_code, 6, (some .boolean), 0, 0, [[(0, .lload_n 0, 1, 1), (1, .lload_n 2, 1, 2), (2, .lcmp, 1, 3), (3, .ifCond .lt 14, 3, 6), (6, .lload_n 0, 1, 7), (7, .lload 4, 2, 9), (9, .lcmp, 1, 10), (10, .ifCond .gt 7, 3, 13), (13, .iconst 1, 1, 14), (14, .goto 4, 3, 17), (17, .iconst 0, 1, 18), (18, .ireturn, 1, 19)]])
theorem odX7_in : ic_okd mX7_in = true := by decide +kernel
def mX7_held : ic_M := (⟨"IronCallModel", "held", "(III)I"⟩, prog_9_method_5_code, 3, (some .int), 0, 0, [[(0, .iload_n 0, 1, 1), (1, .iload_n 1, 1, 2), (2, .if_icmp .ge 7, 3, 5), (5, .iload_n 1, 1, 6), (6, .goto 13, 3, 9), (9, .iload_n 0, 1, 10), (10, .iload_n 2, 1, 11), (11, .if_icmp .le 7, 3, 14), (14, .iload_n 2, 1, 15), (15, .goto 4, 3, 18), (18, .iload_n 0, 1, 19), (19, .ireturn, 1, 20)]])
theorem odX7_held : ic_okd mX7_held = true := by decide +kernel
def mX7_copies : ic_M := (⟨"IronCallModel", "copies", "([I[I)V"⟩, prog_9_method_6_code, 3, none, 0, 0, [[(0, .iconst 0, 1, 1), (1, .istore_n 2, 1, 2), (2, .iload_n 2, 1, 3), (3, .bipush 73, 2, 5), (5, .if_icmp .ge 15, 3, 8), (8, .aload_n 1, 1, 9), (9, .iload_n 2, 1, 10), (10, .aload_n 0, 1, 11), (11, .iload_n 2, 1, 12), (12, .iaload, 1, 13), (13, .iastore, 1, 14), (14, .iinc 2 1, 3, 17), (17, .goto (-15), 3, 20), (20, .return_, 1, 21)]])
theorem odX7_copies : ic_okd mX7_copies = true := by decide +kernel
def mX7_isThing : ic_M := (⟨"IronCallModel", "isThing", "(I)Z"⟩, prog_9_method_7_code, 2, (some .boolean), 1, 25, [[(0, .iload_n 1, 1, 1), (1, .i2l, 1, 2), (2, .lconst 0, 1, 3), (3, .aload_n 0, 1, 4), (4, .getfield 7, 3, 7), (7, .iconst 0, 1, 8), (8, .iaload, 1, 9), (9, .iconst 1, 1, 10), (10, .isub, 1, 11), (11, .i2l, 1, 12), (12, .invokestatic 42, 3, 15), (15, .ireturn, 1, 16)]])
theorem odX7_isThing : ic_okd mX7_isThing = true := by decide +kernel
def mX7_isCell : ic_M := (⟨"IronCallModel", "isCell", "(I)Z"⟩, prog_9_method_8_code, 1, (some .boolean), 1, 25, [[(0, .iload_n 0, 1, 1), (1, .i2l, 1, 2), (2, .lconst 0, 1, 3), (3, .ldc2_w 46, 3, 6), (6, .invokestatic 42, 3, 9), (9, .ireturn, 1, 10)]])
theorem odX7_isCell : ic_okd mX7_isCell = true := by decide +kernel
def mX7_its : ic_M := (⟨"IronCallModel", "its", "(II)I"⟩, prog_9_method_9_code, 3, (some .int), 0, 0, [[(0, .aload_n 0, 1, 1), (1, .getfield 7, 3, 4), (4, .bipush 7, 2, 6), (6, .bipush 8, 2, 8), (8, .iload_n 2, 1, 9), (9, .imul, 1, 10), (10, .iadd, 1, 11), (11, .iload_n 1, 1, 12), (12, .iadd, 1, 13), (13, .iaload, 1, 14), (14, .ireturn, 1, 15)]])
theorem odX7_its : ic_okd mX7_its = true := by decide +kernel
def mX7_sets : ic_M := (⟨"IronCallModel", "sets", "(III)V"⟩, prog_9_method_10_code, 4, none, 0, 0, [[(0, .aload_n 0, 1, 1), (1, .getfield 7, 3, 4), (4, .bipush 7, 2, 6), (6, .bipush 8, 2, 8), (8, .iload_n 2, 1, 9), (9, .imul, 1, 10), (10, .iadd, 1, 11), (11, .iload_n 1, 1, 12), (12, .iadd, 1, 13), (13, .iload_n 3, 1, 14), (14, .iastore, 1, 15), (15, .return_, 1, 16)]])
theorem odX7_sets : ic_okd mX7_sets = true := by decide +kernel
def mX7_becomes : ic_M := (⟨"IronCallModel", "becomes", "(II)I"⟩, prog_9_method_11_code, 4, (some .int), 0, 0, [[(0, .aload_n 0, 1, 1), (1, .getfield 7, 3, 4), (4, .iload_n 1, 1, 5), (5, .iaload, 1, 6), (6, .istore_n 3, 1, 7), (7, .aload_n 0, 1, 8), (8, .getfield 7, 3, 11), (11, .iload_n 1, 1, 12), (12, .iload_n 2, 1, 13), (13, .iastore, 1, 14), (14, .iload_n 3, 1, 15), (15, .ireturn, 1, 16)]])
theorem odX7_becomes : ic_okd mX7_becomes = true := by decide +kernel
def mX7_ones : ic_M := (⟨"IronCallModel", "ones", "(I)I"⟩, prog_9_method_12_code, 3, (some .int), 0, 0, [[(0, .iconst 0, 1, 1), (1, .istore_n 1, 1, 2), (2, .iconst 0, 1, 3), (3, .istore_n 2, 1, 4), (4, .iload_n 2, 1, 5), (5, .bipush 8, 2, 7), (7, .if_icmp .ge 17, 3, 10), (10, .iload_n 1, 1, 11), (11, .iload_n 0, 1, 12), (12, .iload_n 2, 1, 13), (13, .ishr, 1, 14), (14, .iconst 1, 1, 15), (15, .iand, 1, 16), (16, .iadd, 1, 17), (17, .istore_n 1, 1, 18), (18, .iinc 2 1, 3, 21), (21, .goto (-17), 3, 24), (24, .iload_n 1, 1, 25), (25, .ireturn, 1, 26)]])
theorem odX7_ones : ic_okd mX7_ones = true := by decide +kernel
def mX7_size : ic_M := (⟨"IronCallModel", "size", "(I)I"⟩, prog_9_method_13_code, 1, (some .int), 0, 0, [[(0, .iload_n 0, 1, 1), (1, .ifCond .ge 8, 3, 4), (4, .iload_n 0, 1, 5), (5, .ineg, 1, 6), (6, .goto 4, 3, 9), (9, .iload_n 0, 1, 10), (10, .ireturn, 1, 11)]])
theorem odX7_size : ic_okd mX7_size = true := by decide +kernel
def mX7_isTaken : ic_M := (⟨"IronCallModel", "isTaken", "(I)Z"⟩, prog_9_method_14_code, 2, (some .boolean), 1, 22, [[(0, .aload_n 0, 1, 1), (1, .iload_n 1, 1, 2), (2, .iconst 5, 1, 3), (3, .invokevirtual 48, 3, 6), (6, .iconst 1, 1, 7), (7, .if_icmp .ne 7, 3, 10), (10, .iconst 1, 1, 11), (11, .goto 4, 3, 14), (14, .iconst 0, 1, 15), (15, .ireturn, 1, 16)]])
theorem odX7_isTaken : ic_okd mX7_isTaken = true := by decide +kernel
def mX7_far : ic_M := (⟨"IronCallModel", "far", "(I)I"⟩, prog_9_method_15_code, 2, (some .int), 1, 22, [[(0, .aload_n 0, 1, 1), (1, .iload_n 1, 1, 2), (2, .iconst 1, 1, 3), (3, .invokevirtual 48, 3, 6), (6, .aload_n 0, 1, 7), (7, .getfield 7, 3, 10), (10, .iconst 3, 1, 11), (11, .iaload, 1, 12), (12, .isub, 1, 13), (13, .invokestatic 52, 3, 16), (16, .ireturn, 1, 17)]])
theorem odX7_far : ic_okd mX7_far = true := by decide +kernel
def mX7_lying : ic_M := (⟨"IronCallModel", "lying", "(I)I"⟩, prog_9_method_16_code, 4, (some .int), 2, 43, [[(0, .iconst 0, 1, 1), (1, .istore_n 2, 1, 2), (2, .iconst 0, 1, 3), (3, .istore_n 3, 1, 4), (4, .iload_n 3, 1, 5), (5, .aload_n 0, 1, 6), (6, .getfield 7, 3, 9), (9, .iconst 0, 1, 10), (10, .iaload, 1, 11), (11, .if_icmp .ge 37, 3, 14), (14, .iload_n 2, 1, 15), (15, .aload_n 0, 1, 16), (16, .iload_n 3, 1, 17), (17, .invokevirtual 56, 3, 20), (20, .ifCond .ne 19, 3, 23), (23, .aload_n 0, 1, 24), (24, .iload_n 3, 1, 25), (25, .iconst 1, 1, 26), (26, .invokevirtual 48, 3, 29), (29, .iload_n 1, 1, 30), (30, .if_icmp .ne 9, 3, 33), (33, .iconst 1, 1, 34), (34, .iload_n 3, 1, 35), (35, .ishl, 1, 36), (36, .goto 4, 3, 39), (39, .iconst 0, 1, 40), (40, .ior, 1, 41), (41, .istore_n 2, 1, 42), (42, .iinc 3 1, 3, 45), (45, .goto (-41), 3, 48), (48, .iload_n 2, 1, 49), (49, .ireturn, 1, 50)]])
theorem odX7_lying : ic_okd mX7_lying = true := by decide +kernel
def mX7_feels : ic_M := (⟨"IronCallModel", "feels", "(I)I"⟩, prog_9_method_17_code, 5, (some .int), 3, 66, [[(0, .aload_n 0, 1, 1), (1, .iload_n 1, 1, 2), (2, .invokevirtual 60, 3, 5), (5, .istore_n 2, 1, 6), (6, .aload_n 0, 1, 7), (7, .getfield 7, 3, 10), (10, .bipush 6, 2, 12), (12, .iaload, 1, 13), (13, .iload_n 2, 1, 14), (14, .isub, 1, 15), (15, .iconst 0, 1, 16), (16, .bipush 99, 2, 18), (18, .invokestatic 63, 3, 21), (21, .istore_n 3, 1, 22), (22, .iconst 2, 1, 23), (23, .iload_n 3, 1, 24), (24, .imul, 1, 25), (25, .iload_n 2, 1, 26), (26, .iconst 3, 1, 27), (27, .if_icmp .gt 7, 3, 30), (30, .iconst 3, 1, 31), (31, .goto 4, 3, 34), (34, .iconst 0, 1, 35), (35, .iadd, 1, 36), (36, .istore 4, 2, 38), (38, .aload_n 0, 1, 39), (39, .iload_n 1, 1, 40), (40, .iconst 0, 1, 41), (41, .invokevirtual 48, 3, 44), (44, .tableswitch 104 1 6 #[40, 44, 48, 51, 62, 80], 40, 84), (84, .iconst 2, 1, 85), (85, .iload_n 3, 1, 86)], [(86, .imul, 1, 87), (87, .ireturn, 1, 88), (88, .iload_n 3, 1, 89), (89, .iconst 3, 1, 90), (90, .idiv, 1, 91), (91, .ireturn, 1, 92), (92, .iload 4, 2, 94), (94, .ireturn, 1, 95), (95, .iload 4, 2, 97), (97, .iconst 4, 1, 98), (98, .isub, 1, 99), (99, .iconst 0, 1, 100), (100, .bipush 99, 2, 102), (102, .invokestatic 63, 3, 105), (105, .ireturn, 1, 106), (106, .iload_n 2, 1, 107), (107, .iconst 2, 1, 108), (108, .irem, 1, 109), (109, .ifCond .ne 13, 3, 112), (112, .aload_n 0, 1, 113), (113, .getfield 7, 3, 116), (116, .bipush 6, 2, 118), (118, .iaload, 1, 119), (119, .goto 4, 3, 122), (122, .iload_n 3, 1, 123), (123, .ireturn, 1, 124), (124, .iload_n 3, 1, 125), (125, .iconst 3, 1, 126), (126, .idiv, 1, 127), (127, .aload_n 0, 1, 128), (128, .aload_n 0, 1, 129), (129, .iload_n 1, 1, 130)], [(130, .iconst 1, 1, 131), (131, .invokevirtual 48, 3, 134), (134, .invokevirtual 67, 3, 137), (137, .iconst 1, 1, 138), (138, .iload_n 1, 1, 139), (139, .ishl, 1, 140), (140, .iconst (-1), 1, 141), (141, .ixor, 1, 142), (142, .iand, 1, 143), (143, .invokestatic 70, 3, 146), (146, .iadd, 1, 147), (147, .ireturn, 1, 148), (148, .iload_n 3, 1, 149), (149, .ireturn, 1, 150)]])
theorem ocX7_feels_0 : ((mX7_feels.2.2.2.2.2.2.getD 0 []).all fun e => decide (decode mX7_feels.2.1 e.1 = .ok (e.2.1, e.2.2.1)) && decide (e.2.2.2 = e.1 + e.2.2.1)) = true := by decide +kernel
theorem ocX7_feels_1 : ((mX7_feels.2.2.2.2.2.2.getD 1 []).all fun e => decide (decode mX7_feels.2.1 e.1 = .ok (e.2.1, e.2.2.1)) && decide (e.2.2.2 = e.1 + e.2.2.1)) = true := by decide +kernel
theorem ocX7_feels_2 : ((mX7_feels.2.2.2.2.2.2.getD 2 []).all fun e => decide (decode mX7_feels.2.1 e.1 = .ok (e.2.1, e.2.2.1)) && decide (e.2.2.2 = e.1 + e.2.2.1)) = true := by decide +kernel
theorem odX7_feels : ic_okd mX7_feels = true := List.all_eq_true.mpr (List.forall_mem_cons.mpr ⟨ocX7_feels_0, List.forall_mem_cons.mpr ⟨ocX7_feels_1, List.forall_mem_cons.mpr ⟨ocX7_feels_2, fun _ hh => absurd hh List.not_mem_nil⟩⟩⟩)
def mX7_steps : ic_M := (⟨"IronCallModel", "steps", "(I)I"⟩, prog_9_method_18_code, 3, (some .int), 1, 22, [[(0, .aload_n 0, 1, 1), (1, .iload_n 1, 1, 2), (2, .iconst 0, 1, 3), (3, .invokevirtual 48, 3, 6), (6, .istore_n 2, 1, 7), (7, .iload_n 2, 1, 8), (8, .iconst 3, 1, 9), (9, .if_icmp .ne 7, 3, 12), (12, .iconst 2, 1, 13), (13, .goto 23, 3, 16), (16, .iload_n 2, 1, 17), (17, .iconst 5, 1, 18), (18, .if_icmp .ne 17, 3, 21), (21, .aload_n 0, 1, 22), (22, .iload_n 1, 1, 23), (23, .iconst 2, 1, 24), (24, .invokevirtual 48, 3, 27), (27, .iconst 5, 1, 28), (28, .if_icmp .gt 7, 3, 31), (31, .iconst 3, 1, 32), (32, .goto 4, 3, 35), (35, .iconst 1, 1, 36), (36, .ireturn, 1, 37)]])
theorem odX7_steps : ic_okd mX7_steps = true := by decide +kernel
def mX7_isLiked : ic_M := (⟨"IronCallModel", "isLiked", "(I)Z"⟩, prog_9_method_19_code, 3, (some .boolean), 1, 22, [[(0, .aload_n 0, 1, 1), (1, .iload_n 1, 1, 2), (2, .iconst 2, 1, 3), (3, .invokevirtual 48, 3, 6), (6, .bipush 20, 2, 8), (8, .if_icmp .gt 7, 3, 11), (11, .iconst 1, 1, 12), (12, .goto 4, 3, 15), (15, .iconst 0, 1, 16), (16, .istore_n 2, 1, 17), (17, .aload_n 0, 1, 18), (18, .iload_n 1, 1, 19), (19, .iconst 0, 1, 20), (20, .invokevirtual 48, 3, 23), (23, .tableswitch 78 1 6 #[37, 78, 39, 60, 60, 62], 37, 60), (60, .iload_n 2, 1, 61), (61, .ireturn, 1, 62), (62, .iload_n 2, 1, 63), (63, .ifCond .ne 14, 3, 66), (66, .aload_n 0, 1, 67), (67, .iload_n 1, 1, 68), (68, .bipush 6, 2, 70), (70, .invokevirtual 48, 3, 73), (73, .iconst 5, 1, 74), (74, .if_icmp .lt 7, 3, 77), (77, .iconst 1, 1, 78), (78, .goto 4, 3, 81), (81, .iconst 0, 1, 82), (82, .ireturn, 1, 83), (83, .iconst 0, 1, 84), (84, .ireturn, 1, 85), (85, .aload_n 0, 1, 86)], [(86, .iload_n 1, 1, 87), (87, .iconst 3, 1, 88), (88, .invokevirtual 48, 3, 91), (91, .iconst 5, 1, 92), (92, .if_icmp .lt 7, 3, 95), (95, .iconst 1, 1, 96), (96, .goto 4, 3, 99), (99, .iconst 0, 1, 100), (100, .ireturn, 1, 101), (101, .iconst 1, 1, 102), (102, .ireturn, 1, 103)]])
theorem ocX7_isLiked_0 : ((mX7_isLiked.2.2.2.2.2.2.getD 0 []).all fun e => decide (decode mX7_isLiked.2.1 e.1 = .ok (e.2.1, e.2.2.1)) && decide (e.2.2.2 = e.1 + e.2.2.1)) = true := by decide +kernel
theorem ocX7_isLiked_1 : ((mX7_isLiked.2.2.2.2.2.2.getD 1 []).all fun e => decide (decode mX7_isLiked.2.1 e.1 = .ok (e.2.1, e.2.2.1)) && decide (e.2.2.2 = e.1 + e.2.2.1)) = true := by decide +kernel
theorem odX7_isLiked : ic_okd mX7_isLiked = true := List.all_eq_true.mpr (List.forall_mem_cons.mpr ⟨ocX7_isLiked_0, List.forall_mem_cons.mpr ⟨ocX7_isLiked_1, fun _ hh => absurd hh List.not_mem_nil⟩⟩)
def mX7_rests : ic_M := (⟨"IronCallModel", "rests", "(I)I"⟩, prog_9_method_20_code, 2, (some .int), 1, 22, [[(0, .aload_n 0, 1, 1), (1, .iload_n 1, 1, 2), (2, .iconst 0, 1, 3), (3, .invokevirtual 48, 3, 6), (6, .tableswitch 44 1 6 #[38, 40, 38, 40, 38, 42], 38, 44), (44, .iconst 0, 1, 45), (45, .ireturn, 1, 46), (46, .iconst 2, 1, 47), (47, .ireturn, 1, 48), (48, .iconst 4, 1, 49), (49, .ireturn, 1, 50), (50, .iconst 1, 1, 51), (51, .ireturn, 1, 52)]])
theorem odX7_rests : ic_okd mX7_rests = true := by decide +kernel
def mX7_turns : ic_M := (⟨"IronCallModel", "turns", "()V"⟩, prog_9_method_21_code, 1, none, 0, 0, [[(0, .aload_n 0, 1, 1), (1, .getfield 7, 3, 4), (4, .iconst 4, 1, 5), (5, .aload_n 0, 1, 6), (6, .getfield 7, 3, 9), (9, .iconst 3, 1, 10), (10, .iaload, 1, 11), (11, .ifCond .ne 7, 3, 14), (14, .iconst 1, 1, 15), (15, .goto 24, 3, 18), (18, .aload_n 0, 1, 19), (19, .getfield 7, 3, 22), (22, .iconst 3, 1, 23), (23, .iaload, 1, 24), (24, .bipush 15, 2, 26), (26, .if_icmp .ne 7, 3, 29), (29, .iconst 0, 1, 30), (30, .goto 9, 3, 33), (33, .aload_n 0, 1, 34), (34, .getfield 7, 3, 37), (37, .iconst 4, 1, 38), (38, .iaload, 1, 39), (39, .iastore, 1, 40), (40, .return_, 1, 41)]])
theorem odX7_turns : ic_okd mX7_turns = true := by decide +kernel
def mX7_cartGoes : ic_M := (⟨"IronCallModel", "cartGoes", "()V"⟩, prog_9_method_22_code, 2, none, 1, 20, [[(0, .aload_n 0, 1, 1), (1, .invokevirtual 73, 3, 4), (4, .iconst 0, 1, 5), (5, .istore_n 1, 1, 6), (6, .iload_n 1, 1, 7), (7, .aload_n 0, 1, 8), (8, .getfield 7, 3, 11), (11, .iconst 5, 1, 12), (12, .iaload, 1, 13), (13, .if_icmp .ge 37, 3, 16), (16, .aload_n 0, 1, 17), (17, .getfield 7, 3, 20), (20, .iconst 3, 1, 21), (21, .dup2, 1, 22), (22, .iaload, 1, 23), (23, .aload_n 0, 1, 24), (24, .getfield 7, 3, 27), (27, .iconst 4, 1, 28), (28, .iaload, 1, 29), (29, .iconst 1, 1, 30), (30, .if_icmp .ne 7, 3, 33), (33, .iconst 1, 1, 34), (34, .goto 4, 3, 37), (37, .iconst (-1), 1, 38), (38, .iadd, 1, 39), (39, .iastore, 1, 40), (40, .aload_n 0, 1, 41), (41, .invokevirtual 73, 3, 44), (44, .iinc 1 1, 3, 47), (47, .goto (-41), 3, 50), (50, .return_, 1, 51)]])
theorem odX7_cartGoes : ic_okd mX7_cartGoes = true := by decide +kernel
def mX7_pulls : ic_M := (⟨"IronCallModel", "pulls", "(I)V"⟩, prog_9_method_23_code, 3, none, 4, 90, [[(0, .aload_n 0, 1, 1), (1, .iload_n 1, 1, 2), (2, .iconst 3, 1, 3), (3, .aload_n 0, 1, 4), (4, .iload_n 1, 1, 5), (5, .iconst 3, 1, 6), (6, .invokevirtual 48, 3, 9), (9, .aload_n 0, 1, 10), (10, .iload_n 1, 1, 11), (11, .invokevirtual 76, 3, 14), (14, .iadd, 1, 15), (15, .iconst 0, 1, 16), (16, .sipush 999, 3, 19), (19, .invokestatic 63, 3, 22), (22, .invokevirtual 79, 3, 25), (25, .aload_n 0, 1, 26), (26, .iload_n 1, 1, 27), (27, .iconst 3, 1, 28), (28, .invokevirtual 48, 3, 31), (31, .aload_n 0, 1, 32), (32, .iload_n 1, 1, 33), (33, .iconst 2, 1, 34), (34, .invokevirtual 48, 3, 37), (37, .if_icmp .lt 103, 3, 40), (40, .aload_n 0, 1, 41), (41, .iload_n 1, 1, 42), (42, .iconst 4, 1, 43), (43, .invokevirtual 48, 3, 46), (46, .ifCond .ne 94, 3, 49), (49, .aload_n 0, 1, 50), (50, .iload_n 1, 1, 51), (51, .invokevirtual 83, 3, 54)], [(54, .iconst 0, 1, 55), (55, .aload_n 0, 1, 56), (56, .iload_n 1, 1, 57), (57, .invokevirtual 60, 3, 60), (60, .invokestatic 63, 3, 63), (63, .istore_n 2, 1, 64), (64, .aload_n 0, 1, 65), (65, .iload_n 1, 1, 66), (66, .iconst 3, 1, 67), (67, .aload_n 0, 1, 68), (68, .iload_n 1, 1, 69), (69, .iconst 3, 1, 70), (70, .invokevirtual 48, 3, 73), (73, .aload_n 0, 1, 74), (74, .iload_n 1, 1, 75), (75, .iconst 2, 1, 76), (76, .invokevirtual 48, 3, 79), (79, .isub, 1, 80), (80, .invokevirtual 79, 3, 83), (83, .aload_n 0, 1, 84), (84, .iload_n 1, 1, 85), (85, .iconst 1, 1, 86), (86, .aload_n 0, 1, 87), (87, .iload_n 1, 1, 88), (88, .iconst 1, 1, 89), (89, .invokevirtual 48, 3, 92), (92, .aload_n 0, 1, 93), (93, .iload_n 1, 1, 94), (94, .iconst 1, 1, 95), (95, .invokevirtual 48, 3, 98), (98, .aload_n 0, 1, 99), (99, .getfield 7, 3, 102)], [(102, .iconst 3, 1, 103), (103, .iaload, 1, 104), (104, .if_icmp .ge 7, 3, 107), (107, .iload_n 2, 1, 108), (108, .goto 5, 3, 111), (111, .iload_n 2, 1, 112), (112, .ineg, 1, 113), (113, .iadd, 1, 114), (114, .invokevirtual 79, 3, 117), (117, .aload_n 0, 1, 118), (118, .iload_n 1, 1, 119), (119, .bipush 6, 2, 121), (121, .aload_n 0, 1, 122), (122, .iload_n 1, 1, 123), (123, .bipush 6, 2, 125), (125, .invokevirtual 48, 3, 128), (128, .iload_n 2, 1, 129), (129, .iadd, 1, 130), (130, .iconst 0, 1, 131), (131, .sipush 9999, 3, 134), (134, .invokestatic 63, 3, 137), (137, .invokevirtual 79, 3, 140), (140, .return_, 1, 141)]])
theorem ocX7_pulls_0 : ((mX7_pulls.2.2.2.2.2.2.getD 0 []).all fun e => decide (decode mX7_pulls.2.1 e.1 = .ok (e.2.1, e.2.2.1)) && decide (e.2.2.2 = e.1 + e.2.2.1)) = true := by decide +kernel
theorem ocX7_pulls_1 : ((mX7_pulls.2.2.2.2.2.2.getD 1 []).all fun e => decide (decode mX7_pulls.2.1 e.1 = .ok (e.2.1, e.2.2.1)) && decide (e.2.2.2 = e.1 + e.2.2.1)) = true := by decide +kernel
theorem ocX7_pulls_2 : ((mX7_pulls.2.2.2.2.2.2.getD 2 []).all fun e => decide (decode mX7_pulls.2.1 e.1 = .ok (e.2.1, e.2.2.1)) && decide (e.2.2.2 = e.1 + e.2.2.1)) = true := by decide +kernel
theorem odX7_pulls : ic_okd mX7_pulls = true := List.all_eq_true.mpr (List.forall_mem_cons.mpr ⟨ocX7_pulls_0, List.forall_mem_cons.mpr ⟨ocX7_pulls_1, List.forall_mem_cons.mpr ⟨ocX7_pulls_2, fun _ hh => absurd hh List.not_mem_nil⟩⟩⟩)
def mX7_callGoes : ic_M := (⟨"IronCallModel", "callGoes", "()V"⟩, prog_9_method_24_code, 2, none, 5, 112, [[(0, .aload_n 0, 1, 1), (1, .invokevirtual 86, 3, 4), (4, .iconst 0, 1, 5), (5, .istore_n 1, 1, 6), (6, .iload_n 1, 1, 7), (7, .aload_n 0, 1, 8), (8, .getfield 7, 3, 11), (11, .iconst 0, 1, 12), (12, .iaload, 1, 13), (13, .if_icmp .ge 22, 3, 16), (16, .aload_n 0, 1, 17), (17, .iload_n 1, 1, 18), (18, .invokevirtual 56, 3, 21), (21, .ifCond .ne 8, 3, 24), (24, .aload_n 0, 1, 25), (25, .iload_n 1, 1, 26), (26, .invokevirtual 89, 3, 29), (29, .iinc 1 1, 3, 32), (32, .goto (-26), 3, 35), (35, .iconst 0, 1, 36), (36, .istore_n 1, 1, 37), (37, .iload_n 1, 1, 38), (38, .aload_n 0, 1, 39), (39, .getfield 7, 3, 42), (42, .iconst 0, 1, 43), (43, .iaload, 1, 44), (44, .if_icmp .ge 49, 3, 47), (47, .aload_n 0, 1, 48), (48, .iload_n 1, 1, 49), (49, .invokevirtual 56, 3, 52), (52, .ifCond .ne 35, 3, 55), (55, .aload_n 0, 1, 56)], [(56, .iload_n 1, 1, 57), (57, .invokevirtual 60, 3, 60), (60, .ifCond .ne 27, 3, 63), (63, .aload_n 0, 1, 64), (64, .iload_n 1, 1, 65), (65, .iconst 4, 1, 66), (66, .invokevirtual 48, 3, 69), (69, .ifCond .ne 18, 3, 72), (72, .aload_n 0, 1, 73), (73, .iload_n 1, 1, 74), (74, .invokevirtual 93, 3, 77), (77, .ifCond .eq 10, 3, 80), (80, .aload_n 0, 1, 81), (81, .iload_n 1, 1, 82), (82, .iconst 5, 1, 83), (83, .iconst 1, 1, 84), (84, .invokevirtual 79, 3, 87), (87, .iinc 1 1, 3, 90), (90, .goto (-53), 3, 93), (93, .iconst 0, 1, 94), (94, .istore_n 1, 1, 95), (95, .iload_n 1, 1, 96), (96, .aload_n 0, 1, 97), (97, .getfield 7, 3, 100), (100, .iconst 0, 1, 101), (101, .iaload, 1, 102), (102, .if_icmp .ge 42, 3, 105), (105, .aload_n 0, 1, 106), (106, .iload_n 1, 1, 107), (107, .invokevirtual 56, 3, 110), (110, .ifCond .ne 28, 3, 113), (113, .aload_n 0, 1, 114)], [(114, .iload_n 1, 1, 115), (115, .iconst 3, 1, 116), (116, .aload_n 0, 1, 117), (117, .iload_n 1, 1, 118), (118, .iconst 3, 1, 119), (119, .invokevirtual 48, 3, 122), (122, .aload_n 0, 1, 123), (123, .iload_n 1, 1, 124), (124, .invokevirtual 96, 3, 127), (127, .isub, 1, 128), (128, .iconst 0, 1, 129), (129, .sipush 999, 3, 132), (132, .invokestatic 63, 3, 135), (135, .invokevirtual 79, 3, 138), (138, .iinc 1 1, 3, 141), (141, .goto (-46), 3, 144), (144, .aload_n 0, 1, 145), (145, .getfield 7, 3, 148), (148, .iconst 1, 1, 149), (149, .aload_n 0, 1, 150), (150, .getfield 7, 3, 153), (153, .iconst 1, 1, 154), (154, .iaload, 1, 155), (155, .iconst 1, 1, 156), (156, .iadd, 1, 157), (157, .iconst 0, 1, 158), (158, .ldc 99, 2, 160), (160, .invokestatic 63, 3, 163), (163, .iastore, 1, 164), (164, .return_, 1, 165)]])
theorem ocX7_callGoes_0 : ((mX7_callGoes.2.2.2.2.2.2.getD 0 []).all fun e => decide (decode mX7_callGoes.2.1 e.1 = .ok (e.2.1, e.2.2.1)) && decide (e.2.2.2 = e.1 + e.2.2.1)) = true := by decide +kernel
theorem ocX7_callGoes_1 : ((mX7_callGoes.2.2.2.2.2.2.getD 1 []).all fun e => decide (decode mX7_callGoes.2.1 e.1 = .ok (e.2.1, e.2.2.1)) && decide (e.2.2.2 = e.1 + e.2.2.1)) = true := by decide +kernel
theorem ocX7_callGoes_2 : ((mX7_callGoes.2.2.2.2.2.2.getD 2 []).all fun e => decide (decode mX7_callGoes.2.1 e.1 = .ok (e.2.1, e.2.2.1)) && decide (e.2.2.2 = e.1 + e.2.2.1)) = true := by decide +kernel
theorem odX7_callGoes : ic_okd mX7_callGoes = true := List.all_eq_true.mpr (List.forall_mem_cons.mpr ⟨ocX7_callGoes_0, List.forall_mem_cons.mpr ⟨ocX7_callGoes_1, List.forall_mem_cons.mpr ⟨ocX7_callGoes_2, fun _ hh => absurd hh List.not_mem_nil⟩⟩⟩)
def mX7_callsGo : ic_M := (⟨"IronCallModel", "callsGo", "(I)V"⟩, prog_9_method_25_code, 3, none, 6, 133, [[(0, .iconst 0, 1, 1), (1, .istore_n 2, 1, 2), (2, .iload_n 2, 1, 3), (3, .iload_n 1, 1, 4), (4, .if_icmp .ge 13, 3, 7), (7, .aload_n 0, 1, 8), (8, .invokevirtual 100, 3, 11), (11, .iinc 2 1, 3, 14), (14, .goto (-12), 3, 17), (17, .return_, 1, 18)]])
theorem odX7_callsGo : ic_okd mX7_callsGo = true := by decide +kernel
def mX7_sumOf : ic_M := (⟨"IronCallModel", "sumOf", "(I)I"⟩, prog_9_method_26_code, 4, (some .int), 1, 22, [[(0, .iconst 0, 1, 1), (1, .istore_n 2, 1, 2), (2, .iconst 0, 1, 3), (3, .istore_n 3, 1, 4), (4, .iload_n 3, 1, 5), (5, .aload_n 0, 1, 6), (6, .getfield 7, 3, 9), (9, .iconst 0, 1, 10), (10, .iaload, 1, 11), (11, .if_icmp .ge 18, 3, 14), (14, .iload_n 2, 1, 15), (15, .aload_n 0, 1, 16), (16, .iload_n 3, 1, 17), (17, .iload_n 1, 1, 18), (18, .invokevirtual 48, 3, 21), (21, .iadd, 1, 22), (22, .istore_n 2, 1, 23), (23, .iinc 3 1, 3, 26), (26, .goto (-22), 3, 29), (29, .iload_n 2, 1, 30), (30, .ireturn, 1, 31)]])
theorem odX7_sumOf : ic_okd mX7_sumOf = true := by decide +kernel
def mX7_setOf : ic_M := (⟨"IronCallModel", "setOf", "(I)I"⟩, prog_9_method_27_code, 4, (some .int), 1, 22, [[(0, .iconst 0, 1, 1), (1, .istore_n 2, 1, 2), (2, .iconst 0, 1, 3), (3, .istore_n 3, 1, 4), (4, .iload_n 3, 1, 5), (5, .aload_n 0, 1, 6), (6, .getfield 7, 3, 9), (9, .iconst 0, 1, 10), (10, .iaload, 1, 11), (11, .if_icmp .ge 20, 3, 14), (14, .iload_n 2, 1, 15), (15, .aload_n 0, 1, 16), (16, .iload_n 3, 1, 17), (17, .iload_n 1, 1, 18), (18, .invokevirtual 48, 3, 21), (21, .iload_n 3, 1, 22), (22, .ishl, 1, 23), (23, .ior, 1, 24), (24, .istore_n 2, 1, 25), (25, .iinc 3 1, 3, 28), (28, .goto (-24), 3, 31), (31, .iload_n 2, 1, 32), (32, .ireturn, 1, 33)]])
theorem odX7_setOf : ic_okd mX7_setOf = true := by decide +kernel
def mX7_heavyTaken : ic_M := (⟨"IronCallModel", "heavyTaken", "()I"⟩, prog_9_method_28_code, 3, (some .int), 2, 43, [[(0, .iconst 0, 1, 1), (1, .istore_n 1, 1, 2), (2, .iconst 0, 1, 3), (3, .istore_n 2, 1, 4), (4, .iload_n 2, 1, 5), (5, .aload_n 0, 1, 6), (6, .getfield 7, 3, 9), (9, .iconst 0, 1, 10), (10, .iaload, 1, 11), (11, .if_icmp .ge 30, 3, 14), (14, .iload_n 1, 1, 15), (15, .aload_n 0, 1, 16), (16, .iload_n 2, 1, 17), (17, .invokevirtual 56, 3, 20), (20, .ifCond .eq 12, 3, 23), (23, .aload_n 0, 1, 24), (24, .iload_n 2, 1, 25), (25, .iconst 2, 1, 26), (26, .invokevirtual 48, 3, 29), (29, .goto 4, 3, 32), (32, .iconst 0, 1, 33), (33, .iadd, 1, 34), (34, .istore_n 1, 1, 35), (35, .iinc 2 1, 3, 38), (38, .goto (-34), 3, 41), (41, .iload_n 1, 1, 42), (42, .ireturn, 1, 43)]])
theorem odX7_heavyTaken : ic_okd mX7_heavyTaken = true := by decide +kernel
def mX7_isSet : ic_M := (⟨"IronCallModel", "isSet", "(II)Z"⟩, prog_9_method_29_code, 2, (some .boolean), 2, 45, [[(0, .iload_n 0, 1, 1), (1, .ifCond .ne 10, 3, 4), (4, .iload_n 1, 1, 5), (5, .invokestatic 103, 3, 8), (8, .goto 57, 3, 11), (11, .iload_n 0, 1, 12), (12, .iconst 1, 1, 13), (13, .if_icmp .ne 13, 3, 16), (16, .iload_n 1, 1, 17), (17, .i2l, 1, 18), (18, .lconst 0, 1, 19), (19, .lconst 1, 1, 20), (20, .invokestatic 42, 3, 23), (23, .goto 42, 3, 26), (26, .iload_n 0, 1, 27), (27, .iconst 2, 1, 28), (28, .if_icmp .ne 15, 3, 31), (31, .iload_n 1, 1, 32), (32, .i2l, 1, 33), (33, .lconst 0, 1, 34), (34, .ldc2_w 106, 3, 37), (37, .invokestatic 42, 3, 40), (40, .goto 25, 3, 43), (43, .iload_n 0, 1, 44), (44, .iconst 3, 1, 45), (45, .if_icmp .ne 19, 3, 48), (48, .iload_n 1, 1, 49), (49, .i2l, 1, 50), (50, .lconst 0, 1, 51), (51, .ldc2_w 108, 3, 54), (54, .invokestatic 42, 3, 57), (57, .ifCond .eq 7, 3, 60)], [(60, .iconst 1, 1, 61), (61, .goto 4, 3, 64), (64, .iconst 0, 1, 65), (65, .ireturn, 1, 66)]])
theorem ocX7_isSet_0 : ((mX7_isSet.2.2.2.2.2.2.getD 0 []).all fun e => decide (decode mX7_isSet.2.1 e.1 = .ok (e.2.1, e.2.2.1)) && decide (e.2.2.2 = e.1 + e.2.2.1)) = true := by decide +kernel
theorem ocX7_isSet_1 : ((mX7_isSet.2.2.2.2.2.2.getD 1 []).all fun e => decide (decode mX7_isSet.2.1 e.1 = .ok (e.2.1, e.2.2.1)) && decide (e.2.2.2 = e.1 + e.2.2.1)) = true := by decide +kernel
theorem odX7_isSet : ic_okd mX7_isSet = true := List.all_eq_true.mpr (List.forall_mem_cons.mpr ⟨ocX7_isSet_0, List.forall_mem_cons.mpr ⟨ocX7_isSet_1, fun _ hh => absurd hh List.not_mem_nil⟩⟩)
def mX7_set : ic_M := (⟨"IronCallModel", "set", "(II)I"⟩, prog_9_method_30_code, 3, (some .int), 3, 66, [[(0, .iload_n 1, 1, 1), (1, .iload_n 2, 1, 2), (2, .invokestatic 110, 3, 5), (5, .ifCond .eq 14, 3, 8), (8, .aload_n 0, 1, 9), (9, .iconst 3, 1, 10), (10, .iload_n 1, 1, 11), (11, .iadd, 1, 12), (12, .iload_n 2, 1, 13), (13, .invokevirtual 114, 3, 16), (16, .goto 8, 3, 19), (19, .aload_n 0, 1, 20), (20, .iconst 0, 1, 21), (21, .invokevirtual 117, 3, 24), (24, .ireturn, 1, 25)]])
theorem odX7_set : ic_okd mX7_set = true := by decide +kernel
def mX7_cart : ic_M := (⟨"IronCallModel", "cart", "(I)I"⟩, prog_9_method_31_code, 2, (some .int), 1, 25, [[(0, .iload_n 1, 1, 1), (1, .i2l, 1, 2), (2, .lconst 0, 1, 3), (3, .ldc2_w 106, 3, 6), (6, .invokestatic 42, 3, 9), (9, .ifCond .eq 14, 3, 12), (12, .aload_n 0, 1, 13), (13, .getfield 7, 3, 16), (16, .iconst 3, 1, 17), (17, .iload_n 1, 1, 18), (18, .iadd, 1, 19), (19, .iaload, 1, 20), (20, .goto 8, 3, 23), (23, .aload_n 0, 1, 24), (24, .iconst 0, 1, 25), (25, .invokevirtual 117, 3, 28), (28, .ireturn, 1, 29)]])
theorem odX7_cart : ic_okd mX7_cart = true := by decide +kernel
def mX7_comes : ic_M := (⟨"IronCallModel", "comes", "(II)I"⟩, prog_9_method_32_code, 5, (some .int), 1, 23, [[(0, .aload_n 0, 1, 1), (1, .getfield 7, 3, 4), (4, .iconst 0, 1, 5), (5, .iaload, 1, 6), (6, .istore_n 3, 1, 7), (7, .iconst 0, 1, 8), (8, .istore 4, 2, 10), (10, .iload 4, 2, 12), (12, .bipush 6, 2, 14), (14, .if_icmp .gt 17, 3, 17), (17, .aload_n 0, 1, 18), (18, .iload_n 3, 1, 19), (19, .iload 4, 2, 21), (21, .iconst 0, 1, 22), (22, .invokevirtual 79, 3, 25), (25, .iinc 4 1, 3, 28), (28, .goto (-18), 3, 31), (31, .aload_n 0, 1, 32), (32, .iload_n 3, 1, 33), (33, .iconst 0, 1, 34), (34, .iload_n 1, 1, 35), (35, .invokevirtual 79, 3, 38), (38, .aload_n 0, 1, 39), (39, .iload_n 3, 1, 40), (40, .iconst 1, 1, 41), (41, .iload_n 2, 1, 42), (42, .invokevirtual 79, 3, 45), (45, .aload_n 0, 1, 46), (46, .iload_n 3, 1, 47), (47, .iconst 2, 1, 48), (48, .bipush 10, 2, 50), (50, .invokevirtual 79, 3, 53)], [(53, .aload_n 0, 1, 54), (54, .getfield 7, 3, 57), (57, .iconst 0, 1, 58), (58, .dup2, 1, 59), (59, .iaload, 1, 60), (60, .iconst 1, 1, 61), (61, .iadd, 1, 62), (62, .iastore, 1, 63), (63, .iload_n 3, 1, 64), (64, .ireturn, 1, 65)]])
theorem ocX7_comes_0 : ((mX7_comes.2.2.2.2.2.2.getD 0 []).all fun e => decide (decode mX7_comes.2.1 e.1 = .ok (e.2.1, e.2.2.1)) && decide (e.2.2.2 = e.1 + e.2.2.1)) = true := by decide +kernel
theorem ocX7_comes_1 : ((mX7_comes.2.2.2.2.2.2.getD 1 []).all fun e => decide (decode mX7_comes.2.1 e.1 = .ok (e.2.1, e.2.2.1)) && decide (e.2.2.2 = e.1 + e.2.2.1)) = true := by decide +kernel
theorem odX7_comes : ic_okd mX7_comes = true := List.all_eq_true.mpr (List.forall_mem_cons.mpr ⟨ocX7_comes_0, List.forall_mem_cons.mpr ⟨ocX7_comes_1, fun _ hh => absurd hh List.not_mem_nil⟩⟩)
def mX7_thing : ic_M := (⟨"IronCallModel", "thing", "(II)I"⟩, prog_9_method_33_code, 3, (some .int), 2, 47, [[(0, .iload_n 1, 1, 1), (1, .i2l, 1, 2), (2, .lconst 0, 1, 3), (3, .ldc2_w 120, 3, 6), (6, .invokestatic 42, 3, 9), (9, .ifCond .eq 10, 3, 12), (12, .iload_n 2, 1, 13), (13, .invokestatic 103, 3, 16), (16, .ifCond .ne 9, 3, 19), (19, .aload_n 0, 1, 20), (20, .iconst 0, 1, 21), (21, .invokevirtual 117, 3, 24), (24, .ireturn, 1, 25), (25, .aload_n 0, 1, 26), (26, .getfield 7, 3, 29), (29, .iconst 0, 1, 30), (30, .iaload, 1, 31), (31, .bipush 8, 2, 33), (33, .if_icmp .ne 11, 3, 36), (36, .aload_n 0, 1, 37), (37, .iconst 1, 1, 38), (38, .invokevirtual 117, 3, 41), (41, .goto 9, 3, 44), (44, .aload_n 0, 1, 45), (45, .iload_n 1, 1, 46), (46, .iload_n 2, 1, 47), (47, .invokevirtual 122, 3, 50), (50, .ireturn, 1, 51)]])
theorem odX7_thing : ic_okd mX7_thing = true := by decide +kernel
def mX7_of : ic_M := (⟨"IronCallModel", "of", "(II)I"⟩, prog_9_method_34_code, 3, (some .int), 4, 90, [[(0, .aload_n 0, 1, 1), (1, .iload_n 1, 1, 2), (2, .invokevirtual 125, 3, 5), (5, .ifCond .eq 15, 3, 8), (8, .iload_n 2, 1, 9), (9, .i2l, 1, 10), (10, .lconst 0, 1, 11), (11, .ldc2_w 128, 3, 14), (14, .invokestatic 42, 3, 17), (17, .ifCond .ne 9, 3, 20), (20, .aload_n 0, 1, 21), (21, .iconst 0, 1, 22), (22, .invokevirtual 117, 3, 25), (25, .ireturn, 1, 26), (26, .iload_n 2, 1, 27), (27, .tableswitch 71 7 11 #[33, 39, 45, 59, 65], 33, 60), (60, .aload_n 0, 1, 61), (61, .iload_n 1, 1, 62), (62, .invokevirtual 76, 3, 65), (65, .ireturn, 1, 66), (66, .aload_n 0, 1, 67), (67, .iload_n 1, 1, 68), (68, .invokevirtual 83, 3, 71), (71, .ireturn, 1, 72), (72, .aload_n 0, 1, 73), (73, .iload_n 1, 1, 74), (74, .invokevirtual 93, 3, 77), (77, .ifCond .eq 7, 3, 80), (80, .iconst 1, 1, 81), (81, .goto 4, 3, 84), (84, .iconst 0, 1, 85), (85, .ireturn, 1, 86)], [(86, .aload_n 0, 1, 87), (87, .iload_n 1, 1, 88), (88, .invokevirtual 96, 3, 91), (91, .ireturn, 1, 92), (92, .aload_n 0, 1, 93), (93, .iload_n 1, 1, 94), (94, .invokevirtual 60, 3, 97), (97, .ireturn, 1, 98), (98, .aload_n 0, 1, 99), (99, .iload_n 1, 1, 100), (100, .iload_n 2, 1, 101), (101, .invokevirtual 48, 3, 104), (104, .ireturn, 1, 105)]])
theorem ocX7_of_0 : ((mX7_of.2.2.2.2.2.2.getD 0 []).all fun e => decide (decode mX7_of.2.1 e.1 = .ok (e.2.1, e.2.2.1)) && decide (e.2.2.2 = e.1 + e.2.2.1)) = true := by decide +kernel
theorem ocX7_of_1 : ((mX7_of.2.2.2.2.2.2.getD 1 []).all fun e => decide (decode mX7_of.2.1 e.1 = .ok (e.2.1, e.2.2.1)) && decide (e.2.2.2 = e.1 + e.2.2.1)) = true := by decide +kernel
theorem odX7_of : ic_okd mX7_of = true := List.all_eq_true.mpr (List.forall_mem_cons.mpr ⟨ocX7_of_0, List.forall_mem_cons.mpr ⟨ocX7_of_1, fun _ hh => absurd hh List.not_mem_nil⟩⟩)
def mX7_isIts : ic_M := (⟨"IronCallModel", "isIts", "(II)Z"⟩, prog_9_method_35_code, 2, (some .boolean), 2, 45, [[(0, .iload_n 0, 1, 1), (1, .tableswitch 96 0 6 #[43, 53, 58, 68, 78, 78, 86], 43, 44), (44, .iload_n 1, 1, 45), (45, .i2l, 1, 46), (46, .lconst 0, 1, 47), (47, .ldc2_w 120, 3, 50), (50, .invokestatic 42, 3, 53), (53, .ireturn, 1, 54), (54, .iload_n 1, 1, 55), (55, .invokestatic 103, 3, 58), (58, .ireturn, 1, 59), (59, .iload_n 1, 1, 60), (60, .i2l, 1, 61), (61, .lconst 1, 1, 62), (62, .ldc2_w 130, 3, 65), (65, .invokestatic 42, 3, 68), (68, .ireturn, 1, 69), (69, .iload_n 1, 1, 70), (70, .i2l, 1, 71), (71, .lconst 0, 1, 72), (72, .ldc2_w 132, 3, 75), (75, .invokestatic 42, 3, 78), (78, .ireturn, 1, 79), (79, .iload_n 1, 1, 80), (80, .i2l, 1, 81), (81, .lconst 0, 1, 82), (82, .lconst 1, 1, 83), (83, .invokestatic 42, 3, 86), (86, .ireturn, 1, 87), (87, .iload_n 1, 1, 88), (88, .i2l, 1, 89), (89, .lconst 0, 1, 90)], [(90, .ldc2_w 134, 3, 93), (93, .invokestatic 42, 3, 96), (96, .ireturn, 1, 97), (97, .iconst 0, 1, 98), (98, .ireturn, 1, 99)]])
theorem ocX7_isIts_0 : ((mX7_isIts.2.2.2.2.2.2.getD 0 []).all fun e => decide (decode mX7_isIts.2.1 e.1 = .ok (e.2.1, e.2.2.1)) && decide (e.2.2.2 = e.1 + e.2.2.1)) = true := by decide +kernel
theorem ocX7_isIts_1 : ((mX7_isIts.2.2.2.2.2.2.getD 1 []).all fun e => decide (decode mX7_isIts.2.1 e.1 = .ok (e.2.1, e.2.2.1)) && decide (e.2.2.2 = e.1 + e.2.2.1)) = true := by decide +kernel
theorem odX7_isIts : ic_okd mX7_isIts = true := List.all_eq_true.mpr (List.forall_mem_cons.mpr ⟨ocX7_isIts_0, List.forall_mem_cons.mpr ⟨ocX7_isIts_1, fun _ hh => absurd hh List.not_mem_nil⟩⟩)
def mX7_change : ic_M := (⟨"IronCallModel", "change", "(III)I"⟩, prog_9_method_36_code, 4, (some .int), 3, 66, [[(0, .aload_n 0, 1, 1), (1, .iload_n 1, 1, 2), (2, .invokevirtual 125, 3, 5), (5, .ifCond .eq 28, 3, 8), (8, .iload_n 2, 1, 9), (9, .iload_n 3, 1, 10), (10, .invokestatic 136, 3, 13), (13, .ifCond .eq 20, 3, 16), (16, .aload_n 0, 1, 17), (17, .bipush 7, 2, 19), (19, .bipush 8, 2, 21), (21, .iload_n 2, 1, 22), (22, .imul, 1, 23), (23, .iadd, 1, 24), (24, .iload_n 1, 1, 25), (25, .iadd, 1, 26), (26, .iload_n 3, 1, 27), (27, .invokevirtual 114, 3, 30), (30, .goto 8, 3, 33), (33, .aload_n 0, 1, 34), (34, .iconst 0, 1, 35), (35, .invokevirtual 117, 3, 38), (38, .ireturn, 1, 39)]])
theorem odX7_change : ic_okd mX7_change = true := by decide +kernel
def mX7_who : ic_M := (⟨"IronCallModel", "who", "(I)I"⟩, prog_9_method_37_code, 2, (some .int), 3, 66, [[(0, .iload_n 1, 1, 1), (1, .invokestatic 103, 3, 4), (4, .ifCond .eq 11, 3, 7), (7, .aload_n 0, 1, 8), (8, .iload_n 1, 1, 9), (9, .invokevirtual 67, 3, 12), (12, .goto 8, 3, 15), (15, .aload_n 0, 1, 16), (16, .iconst 0, 1, 17), (17, .invokevirtual 117, 3, 20), (20, .ireturn, 1, 21)]])
theorem odX7_who : ic_okd mX7_who = true := by decide +kernel
def mX7_go : ic_M := (⟨"IronCallModel", "go", "(I)I"⟩, prog_9_method_38_code, 2, (some .int), 7, 155, [[(0, .iload_n 1, 1, 1), (1, .i2l, 1, 2), (2, .lconst 1, 1, 3), (3, .ldc2_w 139, 3, 6), (6, .invokestatic 42, 3, 9), (9, .ifCond .ne 9, 3, 12), (12, .aload_n 0, 1, 13), (13, .iconst 0, 1, 14), (14, .invokevirtual 117, 3, 17), (17, .ireturn, 1, 18), (18, .aload_n 0, 1, 19), (19, .getfield 7, 3, 22), (22, .iconst 1, 1, 23), (23, .iaload, 1, 24), (24, .iload_n 1, 1, 25), (25, .iadd, 1, 26), (26, .ldc 99, 2, 28), (28, .if_icmp .le 9, 3, 31), (31, .aload_n 0, 1, 32), (32, .iconst 4, 1, 33), (33, .invokevirtual 117, 3, 36), (36, .ireturn, 1, 37), (37, .aload_n 0, 1, 38), (38, .iload_n 1, 1, 39), (39, .invokevirtual 141, 3, 42), (42, .aload_n 0, 1, 43), (43, .iconst 5, 1, 44), (44, .invokevirtual 144, 3, 47), (47, .ireturn, 1, 48)]])
theorem odX7_go : ic_okd mX7_go = true := by decide +kernel
def mX7_strongest : ic_M := (⟨"IronCallModel", "strongest", "()I"⟩, prog_9_method_39_code, 3, (some .int), 4, 90, [[(0, .iconst (-1), 1, 1), (1, .istore_n 1, 1, 2), (2, .iconst 0, 1, 3), (3, .istore_n 2, 1, 4), (4, .iload_n 2, 1, 5), (5, .aload_n 0, 1, 6), (6, .getfield 7, 3, 9), (9, .iconst 0, 1, 10), (10, .iaload, 1, 11), (11, .if_icmp .ge 40, 3, 14), (14, .aload_n 0, 1, 15), (15, .iload_n 2, 1, 16), (16, .invokevirtual 56, 3, 19), (19, .ifCond .ne 26, 3, 22), (22, .iload_n 1, 1, 23), (23, .ifCond .lt 16, 3, 26), (26, .aload_n 0, 1, 27), (27, .iload_n 2, 1, 28), (28, .invokevirtual 76, 3, 31), (31, .aload_n 0, 1, 32), (32, .iload_n 1, 1, 33), (33, .invokevirtual 76, 3, 36), (36, .if_icmp .le 7, 3, 39), (39, .iload_n 2, 1, 40), (40, .goto 4, 3, 43), (43, .iload_n 1, 1, 44), (44, .istore_n 1, 1, 45), (45, .iinc 2 1, 3, 48), (48, .goto (-44), 3, 51), (51, .iload_n 1, 1, 52), (52, .ireturn, 1, 53)]])
theorem odX7_strongest : ic_okd mX7_strongest = true := by decide +kernel
def mX7_cells : ic_M := (⟨"IronCallModel", "cells", "()I"⟩, prog_9_method_40_code, 3, (some .int), 3, 66, [[(0, .iconst 0, 1, 1), (1, .istore_n 1, 1, 2), (2, .iconst 0, 1, 3), (3, .istore_n 2, 1, 4), (4, .iload_n 2, 1, 5), (5, .bipush 16, 2, 7), (7, .if_icmp .ge 27, 3, 10), (10, .iload_n 1, 1, 11), (11, .aload_n 0, 1, 12), (12, .iload_n 2, 1, 13), (13, .invokevirtual 67, 3, 16), (16, .ifCond .eq 9, 3, 19), (19, .iconst 1, 1, 20), (20, .iload_n 2, 1, 21), (21, .ishl, 1, 22), (22, .goto 4, 3, 25), (25, .iconst 0, 1, 26), (26, .ior, 1, 27), (27, .istore_n 1, 1, 28), (28, .iinc 2 1, 3, 31), (31, .goto (-27), 3, 34), (34, .iload_n 1, 1, 35), (35, .ireturn, 1, 36)]])
theorem odX7_cells : ic_okd mX7_cells = true := by decide +kernel
def mX7_now : ic_M := (⟨"IronCallModel", "now", "(I)I"⟩, prog_9_method_41_code, 2, (some .int), 5, 112, [[(0, .iload_n 1, 1, 1), (1, .tableswitch 94 0 7 #[47, 54, 60, 66, 73, 78, 83, 88], 47, 48), (48, .aload_n 0, 1, 49), (49, .getfield 7, 3, 52), (52, .iconst 1, 1, 53), (53, .iaload, 1, 54), (54, .ireturn, 1, 55), (55, .aload_n 0, 1, 56), (56, .iconst 5, 1, 57), (57, .invokevirtual 144, 3, 60), (60, .ireturn, 1, 61), (61, .aload_n 0, 1, 62), (62, .iconst 3, 1, 63), (63, .invokevirtual 147, 3, 66), (66, .ireturn, 1, 67), (67, .aload_n 0, 1, 68), (68, .bipush 6, 2, 70), (70, .invokevirtual 147, 3, 73), (73, .ireturn, 1, 74), (74, .aload_n 0, 1, 75), (75, .invokevirtual 150, 3, 78), (78, .ireturn, 1, 79), (79, .aload_n 0, 1, 80), (80, .invokevirtual 154, 3, 83), (83, .ireturn, 1, 84), (84, .aload_n 0, 1, 85), (85, .invokevirtual 157, 3, 88), (88, .ireturn, 1, 89), (89, .aload_n 0, 1, 90), (90, .iconst 4, 1, 91), (91, .invokevirtual 144, 3, 94), (94, .ireturn, 1, 95)], [(95, .aload_n 0, 1, 96), (96, .iconst 0, 1, 97), (97, .invokevirtual 117, 3, 100), (100, .ireturn, 1, 101)]])
theorem ocX7_now_0 : ((mX7_now.2.2.2.2.2.2.getD 0 []).all fun e => decide (decode mX7_now.2.1 e.1 = .ok (e.2.1, e.2.2.1)) && decide (e.2.2.2 = e.1 + e.2.2.1)) = true := by decide +kernel
theorem ocX7_now_1 : ((mX7_now.2.2.2.2.2.2.getD 1 []).all fun e => decide (decode mX7_now.2.1 e.1 = .ok (e.2.1, e.2.2.1)) && decide (e.2.2.2 = e.1 + e.2.2.1)) = true := by decide +kernel
theorem odX7_now : ic_okd mX7_now = true := List.all_eq_true.mpr (List.forall_mem_cons.mpr ⟨ocX7_now_0, List.forall_mem_cons.mpr ⟨ocX7_now_1, fun _ hh => absurd hh List.not_mem_nil⟩⟩)
def mX7_behind : ic_M := (⟨"IronCallModel", "behind", "(II)I"⟩, prog_9_method_42_code, 4, (some .int), 7, 155, [[(0, .aload_n 0, 1, 1), (1, .iload_n 1, 1, 2), (2, .invokevirtual 141, 3, 5), (5, .aload_n 0, 1, 6), (6, .getfield 7, 3, 9), (9, .iload_n 2, 1, 10), (10, .iaload, 1, 11), (11, .istore_n 3, 1, 12), (12, .aload_n 0, 1, 13), (13, .getfield 16, 3, 16), (16, .aload_n 0, 1, 17), (17, .getfield 7, 3, 20), (20, .invokestatic 160, 3, 23), (23, .iload_n 3, 1, 24), (24, .ireturn, 1, 25)]])
theorem odX7_behind : ic_okd mX7_behind = true := by decide +kernel
def mX7_ahead : ic_M := (⟨"IronCallModel", "ahead", "(III)I"⟩, prog_9_method_43_code, 4, (some .int), 8, 178, [[(0, .aload_n 0, 1, 1), (1, .iload_n 1, 1, 2), (2, .invokevirtual 125, 3, 5), (5, .ifCond .eq 36, 3, 8), (8, .iload_n 2, 1, 9), (9, .iconst 1, 1, 10), (10, .if_icmp .eq 19, 3, 13), (13, .iload_n 2, 1, 14), (14, .iconst 3, 1, 15), (15, .if_icmp .eq 14, 3, 18), (18, .iload_n 2, 1, 19), (19, .iconst 5, 1, 20), (20, .if_icmp .eq 9, 3, 23), (23, .iload_n 2, 1, 24), (24, .bipush 6, 2, 26), (26, .if_icmp .ne 15, 3, 29), (29, .iload_n 3, 1, 30), (30, .i2l, 1, 31), (31, .lconst 0, 1, 32), (32, .ldc2_w 164, 3, 35), (35, .invokestatic 42, 3, 38), (38, .ifCond .ne 9, 3, 41), (41, .aload_n 0, 1, 42), (42, .iconst 0, 1, 43), (43, .invokevirtual 117, 3, 46), (46, .ireturn, 1, 47), (47, .aload_n 0, 1, 48), (48, .getfield 7, 3, 51), (51, .aload_n 0, 1, 52), (52, .getfield 16, 3, 55), (55, .invokestatic 160, 3, 58), (58, .aload_n 0, 1, 59)], [(59, .iload_n 3, 1, 60), (60, .bipush 7, 2, 62), (62, .bipush 8, 2, 64), (64, .iload_n 2, 1, 65), (65, .imul, 1, 66), (66, .iadd, 1, 67), (67, .iload_n 1, 1, 68), (68, .iadd, 1, 69), (69, .invokevirtual 166, 3, 72), (72, .ireturn, 1, 73)]])
theorem ocX7_ahead_0 : ((mX7_ahead.2.2.2.2.2.2.getD 0 []).all fun e => decide (decode mX7_ahead.2.1 e.1 = .ok (e.2.1, e.2.2.1)) && decide (e.2.2.2 = e.1 + e.2.2.1)) = true := by decide +kernel
theorem ocX7_ahead_1 : ((mX7_ahead.2.2.2.2.2.2.getD 1 []).all fun e => decide (decode mX7_ahead.2.1 e.1 = .ok (e.2.1, e.2.2.1)) && decide (e.2.2.2 = e.1 + e.2.2.1)) = true := by decide +kernel
theorem odX7_ahead : ic_okd mX7_ahead = true := List.all_eq_true.mpr (List.forall_mem_cons.mpr ⟨ocX7_ahead_0, List.forall_mem_cons.mpr ⟨ocX7_ahead_1, fun _ hh => absurd hh List.not_mem_nil⟩⟩)
def mX7_where : ic_M := (⟨"IronCallModel", "where", "(I)I"⟩, prog_9_method_44_code, 2, (some .int), 8, 178, [[(0, .iload_n 1, 1, 1), (1, .i2l, 1, 2), (2, .lconst 0, 1, 3), (3, .ldc2_w 164, 3, 6), (6, .invokestatic 42, 3, 9), (9, .ifCond .ne 9, 3, 12), (12, .aload_n 0, 1, 13), (13, .iconst 0, 1, 14), (14, .invokevirtual 117, 3, 17), (17, .ireturn, 1, 18), (18, .aload_n 0, 1, 19), (19, .getfield 7, 3, 22), (22, .aload_n 0, 1, 23), (23, .getfield 16, 3, 26), (26, .invokestatic 160, 3, 29), (29, .aload_n 0, 1, 30), (30, .iload_n 1, 1, 31), (31, .iconst 3, 1, 32), (32, .invokevirtual 166, 3, 35), (35, .ireturn, 1, 36)]])
theorem odX7_where : ic_okd mX7_where = true := by decide +kernel
def mX7_firstOf : ic_M := (⟨"IronCallModel", "firstOf", "(III)I"⟩, prog_9_method_45_code, 6, (some .int), 6, 133, [[(0, .aload_n 0, 1, 1), (1, .getfield 7, 3, 4), (4, .aload_n 0, 1, 5), (5, .getfield 16, 3, 8), (8, .invokestatic 160, 3, 11), (11, .iconst 0, 1, 12), (12, .istore 4, 2, 14), (14, .iload 4, 2, 16), (16, .sipush 200, 3, 19), (19, .if_icmp .ge 30, 3, 22), (22, .aload_n 0, 1, 23), (23, .getfield 7, 3, 26), (26, .iload_n 1, 1, 27), (27, .iaload, 1, 28), (28, .i2l, 1, 29), (29, .iload_n 2, 1, 30), (30, .i2l, 1, 31), (31, .iload_n 3, 1, 32), (32, .i2l, 1, 33), (33, .invokestatic 42, 3, 36), (36, .ifCond .ne 13, 3, 39), (39, .aload_n 0, 1, 40), (40, .invokevirtual 100, 3, 43), (43, .iinc 4 1, 3, 46), (46, .goto (-32), 3, 49), (49, .aload_n 0, 1, 50), (50, .getfield 7, 3, 53), (53, .iload_n 1, 1, 54), (54, .iaload, 1, 55), (55, .i2l, 1, 56), (56, .iload_n 2, 1, 57), (57, .i2l, 1, 58)], [(58, .iload_n 3, 1, 59), (59, .i2l, 1, 60), (60, .invokestatic 42, 3, 63), (63, .istore 5, 2, 65), (65, .aload_n 0, 1, 66), (66, .getfield 16, 3, 69), (69, .aload_n 0, 1, 70), (70, .getfield 7, 3, 73), (73, .invokestatic 160, 3, 76), (76, .iload 5, 2, 78), (78, .ifCond .eq 8, 3, 81), (81, .iload 4, 2, 83), (83, .goto 8, 3, 86), (86, .aload_n 0, 1, 87), (87, .iconst 3, 1, 88), (88, .invokevirtual 117, 3, 91), (91, .ireturn, 1, 92)]])
theorem ocX7_firstOf_0 : ((mX7_firstOf.2.2.2.2.2.2.getD 0 []).all fun e => decide (decode mX7_firstOf.2.1 e.1 = .ok (e.2.1, e.2.2.1)) && decide (e.2.2.2 = e.1 + e.2.2.1)) = true := by decide +kernel
theorem ocX7_firstOf_1 : ((mX7_firstOf.2.2.2.2.2.2.getD 1 []).all fun e => decide (decode mX7_firstOf.2.1 e.1 = .ok (e.2.1, e.2.2.1)) && decide (e.2.2.2 = e.1 + e.2.2.1)) = true := by decide +kernel
theorem odX7_firstOf : ic_okd mX7_firstOf = true := List.all_eq_true.mpr (List.forall_mem_cons.mpr ⟨ocX7_firstOf_0, List.forall_mem_cons.mpr ⟨ocX7_firstOf_1, fun _ hh => absurd hh List.not_mem_nil⟩⟩)
def mX7_taken : ic_M := (⟨"IronCallModel", "taken", "(I)I"⟩, prog_9_method_46_code, 2, (some .int), 7, 158, [[(0, .aload_n 0, 1, 1), (1, .iload_n 1, 1, 2), (2, .invokevirtual 125, 3, 5), (5, .ifCond .eq 16, 3, 8), (8, .aload_n 0, 1, 9), (9, .bipush 47, 2, 11), (11, .iload_n 1, 1, 12), (12, .iadd, 1, 13), (13, .iconst 1, 1, 14), (14, .iconst 1, 1, 15), (15, .invokevirtual 169, 3, 18), (18, .goto 8, 3, 21), (21, .aload_n 0, 1, 22), (22, .iconst 0, 1, 23), (23, .invokevirtual 117, 3, 26), (26, .ireturn, 1, 27)]])
theorem odX7_taken : ic_okd mX7_taken = true := by decide +kernel
def mX7_when : ic_M := (⟨"IronCallModel", "when", "(II)I"⟩, prog_9_method_47_code, 3, (some .int), 7, 158, [[(0, .aload_n 0, 1, 1), (1, .iload_n 1, 1, 2), (2, .invokevirtual 125, 3, 5), (5, .ifCond .eq 23, 3, 8), (8, .iload_n 2, 1, 9), (9, .invokestatic 103, 3, 12), (12, .ifCond .eq 16, 3, 15), (15, .aload_n 0, 1, 16), (16, .bipush 15, 2, 18), (18, .iload_n 1, 1, 19), (19, .iadd, 1, 20), (20, .iload_n 2, 1, 21), (21, .iload_n 2, 1, 22), (22, .invokevirtual 169, 3, 25), (25, .goto 8, 3, 28), (28, .aload_n 0, 1, 29), (29, .iconst 0, 1, 30), (30, .invokevirtual 117, 3, 33), (33, .ireturn, 1, 34)]])
theorem odX7_when : ic_okd mX7_when = true := by decide +kernel
def mX7_meet : ic_M := (⟨"IronCallModel", "meet", "(II)I"⟩, prog_9_method_48_code, 5, (some .int), 6, 133, [[(0, .aload_n 0, 1, 1), (1, .iload_n 1, 1, 2), (2, .invokevirtual 125, 3, 5), (5, .ifCond .eq 16, 3, 8), (8, .aload_n 0, 1, 9), (9, .iload_n 2, 1, 10), (10, .invokevirtual 125, 3, 13), (13, .ifCond .eq 8, 3, 16), (16, .iload_n 1, 1, 17), (17, .iload_n 2, 1, 18), (18, .if_icmp .ne 9, 3, 21), (21, .aload_n 0, 1, 22), (22, .iconst 0, 1, 23), (23, .invokevirtual 117, 3, 26), (26, .ireturn, 1, 27), (27, .aload_n 0, 1, 28), (28, .getfield 7, 3, 31), (31, .aload_n 0, 1, 32), (32, .getfield 16, 3, 35), (35, .invokestatic 160, 3, 38), (38, .iconst 0, 1, 39), (39, .istore_n 3, 1, 40), (40, .iload_n 3, 1, 41), (41, .sipush 200, 3, 44), (44, .if_icmp .ge 28, 3, 47), (47, .aload_n 0, 1, 48), (48, .iload_n 1, 1, 49), (49, .iconst 1, 1, 50), (50, .invokevirtual 48, 3, 53), (53, .aload_n 0, 1, 54), (54, .iload_n 2, 1, 55), (55, .iconst 1, 1, 56)], [(56, .invokevirtual 48, 3, 59), (59, .if_icmp .eq 13, 3, 62), (62, .aload_n 0, 1, 63), (63, .invokevirtual 100, 3, 66), (66, .iinc 3 1, 3, 69), (69, .goto (-29), 3, 72), (72, .aload_n 0, 1, 73), (73, .iload_n 1, 1, 74), (74, .iconst 1, 1, 75), (75, .invokevirtual 48, 3, 78), (78, .aload_n 0, 1, 79), (79, .iload_n 2, 1, 80), (80, .iconst 1, 1, 81), (81, .invokevirtual 48, 3, 84), (84, .if_icmp .ne 7, 3, 87), (87, .iconst 1, 1, 88), (88, .goto 4, 3, 91), (91, .iconst 0, 1, 92), (92, .istore 4, 2, 94), (94, .aload_n 0, 1, 95), (95, .getfield 16, 3, 98), (98, .aload_n 0, 1, 99), (99, .getfield 7, 3, 102), (102, .invokestatic 160, 3, 105), (105, .iload 4, 2, 107), (107, .ifCond .eq 7, 3, 110), (110, .iload_n 3, 1, 111), (111, .goto 8, 3, 114), (114, .aload_n 0, 1, 115), (115, .iconst 3, 1, 116), (116, .invokevirtual 117, 3, 119), (119, .ireturn, 1, 120)]])
theorem ocX7_meet_0 : ((mX7_meet.2.2.2.2.2.2.getD 0 []).all fun e => decide (decode mX7_meet.2.1 e.1 = .ok (e.2.1, e.2.2.1)) && decide (e.2.2.2 = e.1 + e.2.2.1)) = true := by decide +kernel
theorem ocX7_meet_1 : ((mX7_meet.2.2.2.2.2.2.getD 1 []).all fun e => decide (decode mX7_meet.2.1 e.1 = .ok (e.2.1, e.2.2.1)) && decide (e.2.2.2 = e.1 + e.2.2.1)) = true := by decide +kernel
theorem odX7_meet : ic_okd mX7_meet = true := List.all_eq_true.mpr (List.forall_mem_cons.mpr ⟨ocX7_meet_0, List.forall_mem_cons.mpr ⟨ocX7_meet_1, fun _ hh => absurd hh List.not_mem_nil⟩⟩)
def mX7_strained : ic_M := (⟨"IronCallModel", "strained", "(II)I"⟩, prog_9_method_49_code, 3, (some .int), 7, 158, [[(0, .aload_n 0, 1, 1), (1, .iload_n 1, 1, 2), (2, .invokevirtual 125, 3, 5), (5, .ifCond .eq 30, 3, 8), (8, .iload_n 2, 1, 9), (9, .i2l, 1, 10), (10, .lconst 0, 1, 11), (11, .ldc2_w 132, 3, 14), (14, .invokestatic 42, 3, 17), (17, .ifCond .eq 18, 3, 20), (20, .aload_n 0, 1, 21), (21, .bipush 31, 2, 23), (23, .iload_n 1, 1, 24), (24, .iadd, 1, 25), (25, .iload_n 2, 1, 26), (26, .sipush 999, 3, 29), (29, .invokevirtual 169, 3, 32), (32, .goto 8, 3, 35), (35, .aload_n 0, 1, 36), (36, .iconst 0, 1, 37), (37, .invokevirtual 117, 3, 40), (40, .ireturn, 1, 41)]])
theorem odX7_strained : ic_okd mX7_strained = true := by decide +kernel
def mX7_isShort : ic_M := (⟨"IronCallModel", "isShort", "(I)Z"⟩, prog_9_method_50_code, 1, (some .boolean), 1, 25, [[(0, .iload_n 0, 1, 1), (1, .i2l, 1, 2), (2, .lconst 0, 1, 3), (3, .ldc2_w 139, 3, 6), (6, .invokestatic 42, 3, 9), (9, .ireturn, 1, 10)]])
theorem odX7_isShort : ic_okd mX7_isShort = true := by decide +kernel
def mX7_loudFor : ic_M := (⟨"IronCallModel", "loudFor", "(II)I"⟩, prog_9_method_51_code, 4, (some .int), 8, 178, [[(0, .aload_n 0, 1, 1), (1, .iload_n 1, 1, 2), (2, .invokevirtual 125, 3, 5), (5, .ifCond .eq 10, 3, 8), (8, .iload_n 2, 1, 9), (9, .invokestatic 172, 3, 12), (12, .ifCond .ne 9, 3, 15), (15, .aload_n 0, 1, 16), (16, .iconst 0, 1, 17), (17, .invokevirtual 117, 3, 20), (20, .ireturn, 1, 21), (21, .aload_n 0, 1, 22), (22, .getfield 7, 3, 25), (25, .aload_n 0, 1, 26), (26, .getfield 16, 3, 29), (29, .invokestatic 160, 3, 32), (32, .iconst 0, 1, 33), (33, .istore_n 3, 1, 34), (34, .iload_n 3, 1, 35), (35, .bipush 21, 2, 37), (37, .if_icmp .ge 32, 3, 40), (40, .aload_n 0, 1, 41), (41, .getfield 7, 3, 44), (44, .bipush 6, 2, 46), (46, .iload_n 3, 1, 47), (47, .iastore, 1, 48), (48, .aload_n 0, 1, 49), (49, .iload_n 2, 1, 50), (50, .bipush 47, 2, 52), (52, .iload_n 1, 1, 53), (53, .iadd, 1, 54), (54, .invokevirtual 166, 3, 57)], [(57, .iconst 1, 1, 58), (58, .if_icmp .ne 5, 3, 61), (61, .iload_n 3, 1, 62), (62, .ireturn, 1, 63), (63, .iinc 3 1, 3, 66), (66, .goto (-32), 3, 69), (69, .aload_n 0, 1, 70), (70, .iconst 3, 1, 71), (71, .invokevirtual 117, 3, 74), (74, .ireturn, 1, 75)]])
theorem ocX7_loudFor_0 : ((mX7_loudFor.2.2.2.2.2.2.getD 0 []).all fun e => decide (decode mX7_loudFor.2.1 e.1 = .ok (e.2.1, e.2.2.1)) && decide (e.2.2.2 = e.1 + e.2.2.1)) = true := by decide +kernel
theorem ocX7_loudFor_1 : ((mX7_loudFor.2.2.2.2.2.2.getD 1 []).all fun e => decide (decode mX7_loudFor.2.1 e.1 = .ok (e.2.1, e.2.2.1)) && decide (e.2.2.2 = e.1 + e.2.2.1)) = true := by decide +kernel
theorem odX7_loudFor : ic_okd mX7_loudFor = true := List.all_eq_true.mpr (List.forall_mem_cons.mpr ⟨ocX7_loudFor_0, List.forall_mem_cons.mpr ⟨ocX7_loudFor_1, fun _ hh => absurd hh List.not_mem_nil⟩⟩)
def mX7_startFor : ic_M := (⟨"IronCallModel", "startFor", "(I)I"⟩, prog_9_method_52_code, 6, (some .int), 7, 155, [[(0, .iload_n 1, 1, 1), (1, .invokestatic 172, 3, 4), (4, .ifCond .ne 9, 3, 7), (7, .aload_n 0, 1, 8), (8, .iconst 0, 1, 9), (9, .invokevirtual 117, 3, 12), (12, .ireturn, 1, 13), (13, .aload_n 0, 1, 14), (14, .getfield 7, 3, 17), (17, .aload_n 0, 1, 18), (18, .getfield 16, 3, 21), (21, .invokestatic 160, 3, 24), (24, .iconst 0, 1, 25), (25, .istore_n 2, 1, 26), (26, .iconst (-1), 1, 27), (27, .istore_n 3, 1, 28), (28, .iconst 0, 1, 29), (29, .istore 4, 2, 31), (31, .iload 4, 2, 33), (33, .bipush 16, 2, 35), (35, .if_icmp .ge 51, 3, 38), (38, .aload_n 0, 1, 39), (39, .getfield 7, 3, 42), (42, .iconst 3, 1, 43), (43, .iload 4, 2, 45), (45, .iastore, 1, 46), (46, .aload_n 0, 1, 47), (47, .iload_n 1, 1, 48), (48, .invokevirtual 141, 3, 51), (51, .aload_n 0, 1, 52), (52, .invokevirtual 150, 3, 55), (55, .istore 5, 2, 57)], [(57, .aload_n 0, 1, 58), (58, .getfield 16, 3, 61), (61, .aload_n 0, 1, 62), (62, .getfield 7, 3, 65), (65, .invokestatic 160, 3, 68), (68, .iload 5, 2, 70), (70, .iload_n 3, 1, 71), (71, .if_icmp .le 9, 3, 74), (74, .iload 4, 2, 76), (76, .istore_n 2, 1, 77), (77, .iload 5, 2, 79), (79, .istore_n 3, 1, 80), (80, .iinc 4 1, 3, 83), (83, .goto (-52), 3, 86), (86, .iload_n 2, 1, 87), (87, .ireturn, 1, 88)]])
theorem ocX7_startFor_0 : ((mX7_startFor.2.2.2.2.2.2.getD 0 []).all fun e => decide (decode mX7_startFor.2.1 e.1 = .ok (e.2.1, e.2.2.1)) && decide (e.2.2.2 = e.1 + e.2.2.1)) = true := by decide +kernel
theorem ocX7_startFor_1 : ((mX7_startFor.2.2.2.2.2.2.getD 1 []).all fun e => decide (decode mX7_startFor.2.1 e.1 = .ok (e.2.1, e.2.2.1)) && decide (e.2.2.2 = e.1 + e.2.2.1)) = true := by decide +kernel
theorem odX7_startFor : ic_okd mX7_startFor = true := List.all_eq_true.mpr (List.forall_mem_cons.mpr ⟨ocX7_startFor_0, List.forall_mem_cons.mpr ⟨ocX7_startFor_1, fun _ hh => absurd hh List.not_mem_nil⟩⟩)
def mX7_bestOf : ic_M := (⟨"IronCallModel", "bestOf", "(IIII)I"⟩, prog_9_method_53_code, 9, (some .int), 8, 178, [[(0, .aload_n 0, 1, 1), (1, .getfield 7, 3, 4), (4, .aload_n 0, 1, 5), (5, .getfield 16, 3, 8), (8, .invokestatic 160, 3, 11), (11, .iconst 0, 1, 12), (12, .istore 5, 2, 14), (14, .iconst (-1), 1, 15), (15, .istore 6, 2, 17), (17, .iconst 0, 1, 18), (18, .istore 7, 2, 20), (20, .iload 7, 2, 22), (22, .iload_n 3, 1, 23), (23, .if_icmp .gt 44, 3, 26), (26, .aload_n 0, 1, 27), (27, .iload_n 1, 1, 28), (28, .iload_n 2, 1, 29), (29, .iload 7, 2, 31), (31, .invokevirtual 79, 3, 34), (34, .aload_n 0, 1, 35), (35, .iload 4, 2, 37), (37, .bipush 55, 2, 39), (39, .iload_n 1, 1, 40), (40, .iadd, 1, 41), (41, .invokevirtual 166, 3, 44), (44, .istore 8, 2, 46), (46, .iload 8, 2, 48), (48, .iload 6, 2, 50), (50, .if_icmp .le 11, 3, 53), (53, .iload 7, 2, 55), (55, .istore 5, 2, 57), (57, .iload 8, 2, 59)], [(59, .istore 6, 2, 61), (61, .iinc 7 1, 3, 64), (64, .goto (-44), 3, 67), (67, .iload 5, 2, 69), (69, .ireturn, 1, 70)]])
theorem ocX7_bestOf_0 : ((mX7_bestOf.2.2.2.2.2.2.getD 0 []).all fun e => decide (decode mX7_bestOf.2.1 e.1 = .ok (e.2.1, e.2.2.1)) && decide (e.2.2.2 = e.1 + e.2.2.1)) = true := by decide +kernel
theorem ocX7_bestOf_1 : ((mX7_bestOf.2.2.2.2.2.2.getD 1 []).all fun e => decide (decode mX7_bestOf.2.1 e.1 = .ok (e.2.1, e.2.2.1)) && decide (e.2.2.2 = e.1 + e.2.2.1)) = true := by decide +kernel
theorem odX7_bestOf : ic_okd mX7_bestOf = true := List.all_eq_true.mpr (List.forall_mem_cons.mpr ⟨ocX7_bestOf_0, List.forall_mem_cons.mpr ⟨ocX7_bestOf_1, fun _ hh => absurd hh List.not_mem_nil⟩⟩)
def mX7_layFor : ic_M := (⟨"IronCallModel", "layFor", "(II)I"⟩, prog_9_method_54_code, 3, (some .int), 9, 206, [[(0, .aload_n 0, 1, 1), (1, .iload_n 1, 1, 2), (2, .invokevirtual 125, 3, 5), (5, .ifCond .eq 22, 3, 8), (8, .iload_n 2, 1, 9), (9, .invokestatic 172, 3, 12), (12, .ifCond .eq 15, 3, 15), (15, .aload_n 0, 1, 16), (16, .iload_n 1, 1, 17), (17, .iconst 1, 1, 18), (18, .bipush 15, 2, 20), (20, .iload_n 2, 1, 21), (21, .invokevirtual 175, 3, 24), (24, .goto 8, 3, 27), (27, .aload_n 0, 1, 28), (28, .iconst 0, 1, 29), (29, .invokevirtual 117, 3, 32), (32, .ireturn, 1, 33)]])
theorem odX7_layFor : ic_okd mX7_layFor = true := by decide +kernel
def mX7_kindFor : ic_M := (⟨"IronCallModel", "kindFor", "(II)I"⟩, prog_9_method_55_code, 3, (some .int), 9, 206, [[(0, .aload_n 0, 1, 1), (1, .iload_n 1, 1, 2), (2, .invokevirtual 125, 3, 5), (5, .ifCond .eq 22, 3, 8), (8, .iload_n 2, 1, 9), (9, .invokestatic 172, 3, 12), (12, .ifCond .eq 15, 3, 15), (15, .aload_n 0, 1, 16), (16, .iload_n 1, 1, 17), (17, .iconst 0, 1, 18), (18, .bipush 6, 2, 20), (20, .iload_n 2, 1, 21), (21, .invokevirtual 175, 3, 24), (24, .goto 8, 3, 27), (27, .aload_n 0, 1, 28), (28, .iconst 0, 1, 29), (29, .invokevirtual 117, 3, 32), (32, .ireturn, 1, 33)]])
theorem odX7_kindFor : ic_okd mX7_kindFor = true := by decide +kernel
def mX7_heavyFor : ic_M := (⟨"IronCallModel", "heavyFor", "(II)I"⟩, prog_9_method_56_code, 4, (some .int), 8, 178, [[(0, .aload_n 0, 1, 1), (1, .iload_n 1, 1, 2), (2, .invokevirtual 125, 3, 5), (5, .ifCond .eq 10, 3, 8), (8, .iload_n 2, 1, 9), (9, .invokestatic 172, 3, 12), (12, .ifCond .ne 9, 3, 15), (15, .aload_n 0, 1, 16), (16, .iconst 0, 1, 17), (17, .invokevirtual 117, 3, 20), (20, .ireturn, 1, 21), (21, .aload_n 0, 1, 22), (22, .getfield 7, 3, 25), (25, .aload_n 0, 1, 26), (26, .getfield 16, 3, 29), (29, .invokestatic 160, 3, 32), (32, .iconst 1, 1, 33), (33, .istore_n 3, 1, 34), (34, .iload_n 3, 1, 35), (35, .bipush 99, 2, 37), (37, .if_icmp .gt 30, 3, 40), (40, .aload_n 0, 1, 41), (41, .iload_n 1, 1, 42), (42, .iconst 2, 1, 43), (43, .iload_n 3, 1, 44), (44, .invokevirtual 79, 3, 47), (47, .aload_n 0, 1, 48), (48, .iload_n 2, 1, 49), (49, .bipush 47, 2, 51), (51, .iload_n 1, 1, 52), (52, .iadd, 1, 53), (53, .invokevirtual 166, 3, 56)], [(56, .ifCond .ne 5, 3, 59), (59, .iload_n 3, 1, 60), (60, .ireturn, 1, 61), (61, .iinc 3 1, 3, 64), (64, .goto (-30), 3, 67), (67, .aload_n 0, 1, 68), (68, .iconst 3, 1, 69), (69, .invokevirtual 117, 3, 72), (72, .ireturn, 1, 73)]])
theorem ocX7_heavyFor_0 : ((mX7_heavyFor.2.2.2.2.2.2.getD 0 []).all fun e => decide (decode mX7_heavyFor.2.1 e.1 = .ok (e.2.1, e.2.2.1)) && decide (e.2.2.2 = e.1 + e.2.2.1)) = true := by decide +kernel
theorem ocX7_heavyFor_1 : ((mX7_heavyFor.2.2.2.2.2.2.getD 1 []).all fun e => decide (decode mX7_heavyFor.2.1 e.1 = .ok (e.2.1, e.2.2.1)) && decide (e.2.2.2 = e.1 + e.2.2.1)) = true := by decide +kernel
theorem odX7_heavyFor : ic_okd mX7_heavyFor = true := List.all_eq_true.mpr (List.forall_mem_cons.mpr ⟨ocX7_heavyFor_0, List.forall_mem_cons.mpr ⟨ocX7_heavyFor_1, fun _ hh => absurd hh List.not_mem_nil⟩⟩)
def mX7_holdFast : ic_M := (⟨"IronCallModel", "holdFast", "(I)I"⟩, prog_9_method_57_code, 5, (some .int), 7, 155, [[(0, .iload_n 1, 1, 1), (1, .i2l, 1, 2), (2, .lconst 0, 1, 3), (3, .ldc2_w 108, 3, 6), (6, .invokestatic 42, 3, 9), (9, .ifCond .ne 9, 3, 12), (12, .aload_n 0, 1, 13), (13, .iconst 0, 1, 14), (14, .invokevirtual 117, 3, 17), (17, .ireturn, 1, 18), (18, .aload_n 0, 1, 19), (19, .getfield 7, 3, 22), (22, .aload_n 0, 1, 23), (23, .getfield 16, 3, 26), (26, .invokestatic 160, 3, 29), (29, .iconst (-1), 1, 30), (30, .istore_n 2, 1, 31), (31, .iconst 0, 1, 32), (32, .istore_n 3, 1, 33), (33, .iload_n 3, 1, 34), (34, .iconst 1, 1, 35), (35, .aload_n 0, 1, 36), (36, .getfield 7, 3, 39), (39, .iconst 0, 1, 40), (40, .iaload, 1, 41), (41, .ishl, 1, 42), (42, .if_icmp .ge 107, 3, 45), (45, .iload_n 2, 1, 46), (46, .ifCond .lt 17, 3, 49), (49, .iload_n 3, 1, 50), (50, .invokestatic 70, 3, 53), (53, .iload_n 2, 1, 54)], [(54, .invokestatic 70, 3, 57), (57, .if_icmp .lt 6, 3, 60), (60, .goto 83, 3, 63), (63, .iconst 0, 1, 64), (64, .istore 4, 2, 66), (66, .iload 4, 2, 68), (68, .aload_n 0, 1, 69), (69, .getfield 7, 3, 72), (72, .iconst 0, 1, 73), (73, .iaload, 1, 74), (74, .if_icmp .ge 30, 3, 77), (77, .aload_n 0, 1, 78), (78, .iload 4, 2, 80), (80, .iconst 4, 1, 81), (81, .aload_n 0, 1, 82), (82, .iload 4, 2, 84), (84, .iconst 4, 1, 85), (85, .invokevirtual 48, 3, 88), (88, .iload_n 3, 1, 89), (89, .iload 4, 2, 91), (91, .ishr, 1, 92), (92, .iconst 1, 1, 93), (93, .iand, 1, 94), (94, .ior, 1, 95), (95, .invokevirtual 79, 3, 98), (98, .iinc 4 1, 3, 101), (101, .goto (-35), 3, 104), (104, .aload_n 0, 1, 105), (105, .iload_n 1, 1, 106), (106, .invokevirtual 141, 3, 109), (109, .aload_n 0, 1, 110), (110, .iconst 5, 1, 111)], [(111, .invokevirtual 144, 3, 114), (114, .istore 4, 2, 116), (116, .aload_n 0, 1, 117), (117, .getfield 16, 3, 120), (120, .aload_n 0, 1, 121), (121, .getfield 7, 3, 124), (124, .invokestatic 160, 3, 127), (127, .iload 4, 2, 129), (129, .aload_n 0, 1, 130), (130, .iconst 5, 1, 131), (131, .invokevirtual 144, 3, 134), (134, .if_icmp .ne 7, 3, 137), (137, .iload_n 3, 1, 138), (138, .goto 4, 3, 141), (141, .iload_n 2, 1, 142), (142, .istore_n 2, 1, 143), (143, .iinc 3 1, 3, 146), (146, .goto (-113), 3, 149), (149, .iload_n 2, 1, 150), (150, .ifCond .ge 11, 3, 153), (153, .aload_n 0, 1, 154), (154, .iconst 3, 1, 155), (155, .invokevirtual 117, 3, 158), (158, .goto 4, 3, 161), (161, .iload_n 2, 1, 162), (162, .ireturn, 1, 163)]])
theorem ocX7_holdFast_0 : ((mX7_holdFast.2.2.2.2.2.2.getD 0 []).all fun e => decide (decode mX7_holdFast.2.1 e.1 = .ok (e.2.1, e.2.2.1)) && decide (e.2.2.2 = e.1 + e.2.2.1)) = true := by decide +kernel
theorem ocX7_holdFast_1 : ((mX7_holdFast.2.2.2.2.2.2.getD 1 []).all fun e => decide (decode mX7_holdFast.2.1 e.1 = .ok (e.2.1, e.2.2.1)) && decide (e.2.2.2 = e.1 + e.2.2.1)) = true := by decide +kernel
theorem ocX7_holdFast_2 : ((mX7_holdFast.2.2.2.2.2.2.getD 2 []).all fun e => decide (decode mX7_holdFast.2.1 e.1 = .ok (e.2.1, e.2.2.1)) && decide (e.2.2.2 = e.1 + e.2.2.1)) = true := by decide +kernel
theorem odX7_holdFast : ic_okd mX7_holdFast = true := List.all_eq_true.mpr (List.forall_mem_cons.mpr ⟨ocX7_holdFast_0, List.forall_mem_cons.mpr ⟨ocX7_holdFast_1, List.forall_mem_cons.mpr ⟨ocX7_holdFast_2, fun _ hh => absurd hh List.not_mem_nil⟩⟩⟩)
def mX7_whyNot : ic_M := (⟨"IronCallModel", "whyNot", "(II)I"⟩, prog_9_method_58_code, 4, (some .int), 3, 66, [[(0, .aload_n 0, 1, 1), (1, .iload_n 1, 1, 2), (2, .invokevirtual 179, 3, 5), (5, .istore_n 3, 1, 6), (6, .iload_n 3, 1, 7), (7, .ifCond .lt 7, 3, 10), (10, .iload_n 3, 1, 11), (11, .goto 16, 3, 14), (14, .aload_n 0, 1, 15), (15, .iload_n 2, 1, 16), (16, .invokevirtual 125, 3, 19), (19, .ifCond .eq 7, 3, 22), (22, .iconst (-1), 1, 23), (23, .goto 4, 3, 26), (26, .iconst 0, 1, 27), (27, .ireturn, 1, 28)]])
theorem odX7_whyNot : ic_okd mX7_whyNot = true := by decide +kernel
def mX7_fitting : ic_M := (⟨"IronCallModel", "fitting", "(IIIII)I"⟩, prog_9_method_59_code, 11, (some .int), 6, 133, [[(0, .aload_n 0, 1, 1), (1, .getfield 7, 3, 4), (4, .aload_n 0, 1, 5), (5, .getfield 16, 3, 8), (8, .invokestatic 160, 3, 11), (11, .iconst 0, 1, 12), (12, .istore 6, 2, 14), (14, .iconst 0, 1, 15), (15, .istore 7, 2, 17), (17, .iload 7, 2, 19), (19, .iload 4, 2, 21), (21, .if_icmp .gt 117, 3, 24), (24, .aload_n 0, 1, 25), (25, .iload_n 2, 1, 26), (26, .iload_n 3, 1, 27), (27, .iload 7, 2, 29), (29, .invokevirtual 79, 3, 32), (32, .iconst 1, 1, 33), (33, .istore 8, 2, 35), (35, .iconst 0, 1, 36), (36, .istore 9, 2, 38), (38, .iload 9, 2, 40), (40, .aload_n 0, 1, 41), (41, .getfield 32, 3, 44), (44, .iload_n 1, 1, 45), (45, .iaload, 1, 46), (46, .if_icmp .ge 57, 3, 49), (49, .iload 8, 2, 51), (51, .ifCond .eq 52, 3, 54), (54, .aload_n 0, 1, 55), (55, .getfield 35, 3, 58), (58, .bipush 40, 2, 60)], [(60, .iload_n 1, 1, 61), (61, .imul, 1, 62), (62, .iload 9, 2, 64), (64, .iadd, 1, 65), (65, .iaload, 1, 66), (66, .istore 10, 2, 68), (68, .iload 10, 2, 70), (70, .iconst (-1), 1, 71), (71, .if_icmp .eq 15, 3, 74), (74, .iload 10, 2, 76), (76, .aload_n 0, 1, 77), (77, .iload_n 2, 1, 78), (78, .iload 5, 2, 80), (80, .invokevirtual 48, 3, 83), (83, .if_icmp .ne 7, 3, 86), (86, .iconst 1, 1, 87), (87, .goto 4, 3, 90), (90, .iconst 0, 1, 91), (91, .istore 8, 2, 93), (93, .aload_n 0, 1, 94), (94, .invokevirtual 100, 3, 97), (97, .iinc 9 1, 3, 100), (100, .goto (-62), 3, 103), (103, .aload_n 0, 1, 104), (104, .getfield 16, 3, 107), (107, .aload_n 0, 1, 108), (108, .getfield 7, 3, 111), (111, .invokestatic 160, 3, 114), (114, .iload 6, 2, 116), (116, .iload 8, 2, 118), (118, .ifCond .eq 10, 3, 121), (121, .iconst 1, 1, 122)], [(122, .iload 7, 2, 124), (124, .ishl, 1, 125), (125, .goto 4, 3, 128), (128, .iconst 0, 1, 129), (129, .ior, 1, 130), (130, .istore 6, 2, 132), (132, .iinc 7 1, 3, 135), (135, .goto (-118), 3, 138), (138, .iload 6, 2, 140), (140, .ireturn, 1, 141)]])
theorem ocX7_fitting_0 : ((mX7_fitting.2.2.2.2.2.2.getD 0 []).all fun e => decide (decode mX7_fitting.2.1 e.1 = .ok (e.2.1, e.2.2.1)) && decide (e.2.2.2 = e.1 + e.2.2.1)) = true := by decide +kernel
theorem ocX7_fitting_1 : ((mX7_fitting.2.2.2.2.2.2.getD 1 []).all fun e => decide (decode mX7_fitting.2.1 e.1 = .ok (e.2.1, e.2.2.1)) && decide (e.2.2.2 = e.1 + e.2.2.1)) = true := by decide +kernel
theorem ocX7_fitting_2 : ((mX7_fitting.2.2.2.2.2.2.getD 2 []).all fun e => decide (decode mX7_fitting.2.1 e.1 = .ok (e.2.1, e.2.2.1)) && decide (e.2.2.2 = e.1 + e.2.2.1)) = true := by decide +kernel
theorem odX7_fitting : ic_okd mX7_fitting = true := List.all_eq_true.mpr (List.forall_mem_cons.mpr ⟨ocX7_fitting_0, List.forall_mem_cons.mpr ⟨ocX7_fitting_1, List.forall_mem_cons.mpr ⟨ocX7_fitting_2, fun _ hh => absurd hh List.not_mem_nil⟩⟩⟩)
def mX7_fits : ic_M := (⟨"IronCallModel", "fits", "(II)I"⟩, prog_9_method_60_code, 4, (some .int), 7, 163, [[(0, .aload_n 0, 1, 1), (1, .iload_n 1, 1, 2), (2, .iload_n 2, 1, 3), (3, .invokevirtual 182, 3, 6), (6, .istore_n 3, 1, 7), (7, .iload_n 3, 1, 8), (8, .ifCond .lt 11, 3, 11), (11, .aload_n 0, 1, 12), (12, .iload_n 3, 1, 13), (13, .invokevirtual 117, 3, 16), (16, .goto 13, 3, 19), (19, .aload_n 0, 1, 20), (20, .iload_n 1, 1, 21), (21, .iload_n 2, 1, 22), (22, .iconst 1, 1, 23), (23, .bipush 15, 2, 25), (25, .iconst 3, 1, 26), (26, .invokevirtual 185, 3, 29), (29, .ireturn, 1, 30)]])
theorem odX7_fits : ic_okd mX7_fits = true := by decide +kernel
def mX7_kinds : ic_M := (⟨"IronCallModel", "kinds", "(II)I"⟩, prog_9_method_61_code, 4, (some .int), 7, 163, [[(0, .aload_n 0, 1, 1), (1, .iload_n 1, 1, 2), (2, .iload_n 2, 1, 3), (3, .invokevirtual 182, 3, 6), (6, .istore_n 3, 1, 7), (7, .iload_n 3, 1, 8), (8, .ifCond .lt 11, 3, 11), (11, .aload_n 0, 1, 12), (12, .iload_n 3, 1, 13), (13, .invokevirtual 117, 3, 16), (16, .goto 13, 3, 19), (19, .aload_n 0, 1, 20), (20, .iload_n 1, 1, 21), (21, .iload_n 2, 1, 22), (22, .iconst 0, 1, 23), (23, .bipush 6, 2, 25), (25, .iconst 1, 1, 26), (26, .invokevirtual 185, 3, 29), (29, .ireturn, 1, 30)]])
theorem odX7_kinds : ic_okd mX7_kinds = true := by decide +kernel
def mX7_draw : ic_M := (⟨"IronCallModel", "draw", "()I"⟩, prog_9_method_62_code, 1, (some .int), 0, 0, [[(0, .aload_n 0, 1, 1), (1, .getfield 7, 3, 4), (4, .iconst 2, 1, 5), (5, .aload_n 0, 1, 6), (6, .getfield 7, 3, 9), (9, .iconst 2, 1, 10), (10, .iaload, 1, 11), (11, .ldc 189, 2, 13), (13, .imul, 1, 14), (14, .sipush 12345, 3, 17), (17, .iadd, 1, 18), (18, .iastore, 1, 19), (19, .aload_n 0, 1, 20), (20, .getfield 7, 3, 23), (23, .iconst 2, 1, 24), (24, .iaload, 1, 25), (25, .bipush 8, 2, 27), (27, .iushr, 1, 28), (28, .ireturn, 1, 29)]])
theorem odX7_draw : ic_okd mX7_draw = true := by decide +kernel
def mX7_calls : ic_M := (⟨"IronCallModel", "calls", "(I)I"⟩, prog_9_method_63_code, 3, (some .int), 6, 133, [[(0, .iload_n 1, 1, 1), (1, .i2l, 1, 2), (2, .lconst 1, 1, 3), (3, .ldc2_w 108, 3, 6), (6, .invokestatic 42, 3, 9), (9, .ifCond .ne 9, 3, 12), (12, .aload_n 0, 1, 13), (13, .iconst 0, 1, 14), (14, .invokevirtual 117, 3, 17), (17, .ireturn, 1, 18), (18, .aload_n 0, 1, 19), (19, .getfield 7, 3, 22), (22, .iconst 1, 1, 23), (23, .iaload, 1, 24), (24, .iload_n 1, 1, 25), (25, .iadd, 1, 26), (26, .ldc 99, 2, 28), (28, .if_icmp .le 9, 3, 31), (31, .aload_n 0, 1, 32), (32, .iconst 4, 1, 33), (33, .invokevirtual 117, 3, 36), (36, .ireturn, 1, 37), (37, .iconst 0, 1, 38), (38, .istore_n 2, 1, 39), (39, .iload_n 2, 1, 40), (40, .iload_n 1, 1, 41), (41, .if_icmp .ge 40, 3, 44), (44, .aload_n 0, 1, 45), (45, .getfield 7, 3, 48), (48, .iconst 3, 1, 49), (49, .aload_n 0, 1, 50), (50, .invokevirtual 190, 3, 53)], [(53, .bipush 16, 2, 55), (55, .irem, 1, 56), (56, .iastore, 1, 57), (57, .aload_n 0, 1, 58), (58, .getfield 7, 3, 61), (61, .bipush 6, 2, 63), (63, .aload_n 0, 1, 64), (64, .invokevirtual 190, 3, 67), (67, .bipush 21, 2, 69), (69, .irem, 1, 70), (70, .iastore, 1, 71), (71, .aload_n 0, 1, 72), (72, .invokevirtual 100, 3, 75), (75, .iinc 2 1, 3, 78), (78, .goto (-39), 3, 81), (81, .aload_n 0, 1, 82), (82, .iconst 5, 1, 83), (83, .invokevirtual 144, 3, 86), (86, .ireturn, 1, 87)]])
theorem ocX7_calls_0 : ((mX7_calls.2.2.2.2.2.2.getD 0 []).all fun e => decide (decode mX7_calls.2.1 e.1 = .ok (e.2.1, e.2.2.1)) && decide (e.2.2.2 = e.1 + e.2.2.1)) = true := by decide +kernel
theorem ocX7_calls_1 : ((mX7_calls.2.2.2.2.2.2.getD 1 []).all fun e => decide (decode mX7_calls.2.1 e.1 = .ok (e.2.1, e.2.2.1)) && decide (e.2.2.2 = e.1 + e.2.2.1)) = true := by decide +kernel
theorem odX7_calls : ic_okd mX7_calls = true := List.all_eq_true.mpr (List.forall_mem_cons.mpr ⟨ocX7_calls_0, List.forall_mem_cons.mpr ⟨ocX7_calls_1, fun _ hh => absurd hh List.not_mem_nil⟩⟩)
def mX7_odds : ic_M := (⟨"IronCallModel", "odds", "(IIII)J"⟩, prog_9_method_64_code, 11, (some .long), 4, 90, [[(0, .aload_n 0, 1, 1), (1, .iload_n 1, 1, 2), (2, .invokevirtual 125, 3, 5), (5, .ifCond .eq 38, 3, 8), (8, .iload_n 2, 1, 9), (9, .i2l, 1, 10), (10, .lconst 0, 1, 11), (11, .ldc2_w 130, 3, 14), (14, .invokestatic 42, 3, 17), (17, .ifCond .eq 26, 3, 20), (20, .iload_n 3, 1, 21), (21, .i2l, 1, 22), (22, .lconst 0, 1, 23), (23, .ldc2_w 46, 3, 26), (26, .invokestatic 42, 3, 29), (29, .ifCond .eq 14, 3, 32), (32, .iload 4, 2, 34), (34, .i2l, 1, 35), (35, .lconst 0, 1, 36), (36, .lconst 1, 1, 37), (37, .invokestatic 42, 3, 40), (40, .ifCond .ne 10, 3, 43), (43, .aload_n 0, 1, 44), (44, .iconst 0, 1, 45), (45, .invokevirtual 117, 3, 48), (48, .i2l, 1, 49), (49, .lreturn, 1, 50), (50, .aload_n 0, 1, 51), (51, .getfield 7, 3, 54), (54, .iconst 3, 1, 55), (55, .iaload, 1, 56), (56, .istore 5, 2, 58)], [(58, .iconst 0, 1, 59), (59, .istore 6, 2, 61), (61, .iconst 0, 1, 62), (62, .istore 7, 2, 64), (64, .iload 7, 2, 66), (66, .bipush 16, 2, 68), (68, .if_icmp .ge 36, 3, 71), (71, .aload_n 0, 1, 72), (72, .getfield 7, 3, 75), (75, .iconst 3, 1, 76), (76, .iload 7, 2, 78), (78, .iastore, 1, 79), (79, .iload 6, 2, 81), (81, .aload_n 0, 1, 82), (82, .iload_n 1, 1, 83), (83, .invokevirtual 76, 3, 86), (86, .iload_n 2, 1, 87), (87, .if_icmp .lt 7, 3, 90), (90, .iconst 1, 1, 91), (91, .goto 4, 3, 94), (94, .iconst 0, 1, 95), (95, .iadd, 1, 96), (96, .istore 6, 2, 98), (98, .iinc 7 1, 3, 101), (101, .goto (-37), 3, 104), (104, .aload_n 0, 1, 105), (105, .getfield 7, 3, 108), (108, .iconst 3, 1, 109), (109, .iload 5, 2, 111), (111, .iastore, 1, 112), (112, .bipush 16, 2, 114), (114, .istore 7, 2, 116)], [(116, .iload 6, 2, 118), (118, .iconst 2, 1, 119), (119, .irem, 1, 120), (120, .ifCond .ne 24, 3, 123), (123, .iload 7, 2, 125), (125, .iconst 1, 1, 126), (126, .if_icmp .le 18, 3, 129), (129, .iload 6, 2, 131), (131, .iconst 2, 1, 132), (132, .idiv, 1, 133), (133, .istore 6, 2, 135), (135, .iload 7, 2, 137), (137, .iconst 2, 1, 138), (138, .idiv, 1, 139), (139, .istore 7, 2, 141), (141, .goto (-25), 3, 144), (144, .lconst 1, 1, 145), (145, .lstore 8, 2, 147), (147, .iconst 0, 1, 148), (148, .istore 10, 2, 150), (150, .iload 10, 2, 152), (152, .iload_n 3, 1, 153), (153, .if_icmp .ge 28, 3, 156), (156, .lload 8, 2, 158), (158, .iload 4, 2, 160), (160, .ifCond .ne 9, 3, 163), (163, .iload 6, 2, 165), (165, .i2l, 1, 166), (166, .goto 6, 3, 169), (169, .iload 7, 2, 171), (171, .i2l, 1, 172), (172, .lmul, 1, 173)], [(173, .lstore 8, 2, 175), (175, .iinc 10 1, 3, 178), (178, .goto (-28), 3, 181), (181, .lload 8, 2, 183), (183, .lreturn, 1, 184)]])
theorem ocX7_odds_0 : ((mX7_odds.2.2.2.2.2.2.getD 0 []).all fun e => decide (decode mX7_odds.2.1 e.1 = .ok (e.2.1, e.2.2.1)) && decide (e.2.2.2 = e.1 + e.2.2.1)) = true := by decide +kernel
theorem ocX7_odds_1 : ((mX7_odds.2.2.2.2.2.2.getD 1 []).all fun e => decide (decode mX7_odds.2.1 e.1 = .ok (e.2.1, e.2.2.1)) && decide (e.2.2.2 = e.1 + e.2.2.1)) = true := by decide +kernel
theorem ocX7_odds_2 : ((mX7_odds.2.2.2.2.2.2.getD 2 []).all fun e => decide (decode mX7_odds.2.1 e.1 = .ok (e.2.1, e.2.2.1)) && decide (e.2.2.2 = e.1 + e.2.2.1)) = true := by decide +kernel
theorem ocX7_odds_3 : ((mX7_odds.2.2.2.2.2.2.getD 3 []).all fun e => decide (decode mX7_odds.2.1 e.1 = .ok (e.2.1, e.2.2.1)) && decide (e.2.2.2 = e.1 + e.2.2.1)) = true := by decide +kernel
theorem odX7_odds : ic_okd mX7_odds = true := List.all_eq_true.mpr (List.forall_mem_cons.mpr ⟨ocX7_odds_0, List.forall_mem_cons.mpr ⟨ocX7_odds_1, List.forall_mem_cons.mpr ⟨ocX7_odds_2, List.forall_mem_cons.mpr ⟨ocX7_odds_3, fun _ hh => absurd hh List.not_mem_nil⟩⟩⟩⟩)
def mX7_seed : ic_M := (⟨"IronCallModel", "seed", "(I)I"⟩, prog_9_method_65_code, 2, (some .int), 1, 23, [[(0, .aload_n 0, 1, 1), (1, .iconst 2, 1, 2), (2, .iload_n 1, 1, 3), (3, .invokevirtual 114, 3, 6), (6, .ireturn, 1, 7)]])
theorem odX7_seed : ic_okd mX7_seed = true := by decide +kernel
def mX7_feed : ic_M := (⟨"IronCallModel", "feed", "(II)I"⟩, prog_9_method_66_code, 4, (some .int), 1, 25, [[(0, .iload_n 2, 1, 1), (1, .i2l, 1, 2), (2, .lconst 1, 1, 3), (3, .ldc2_w 193, 3, 6), (6, .invokestatic 42, 3, 9), (9, .ifCond .ne 9, 3, 12), (12, .aload_n 0, 1, 13), (13, .iconst 0, 1, 14), (14, .invokevirtual 117, 3, 17), (17, .ireturn, 1, 18), (18, .aload_n 0, 1, 19), (19, .getfield 195, 3, 22), (22, .iload_n 2, 1, 23), (23, .iadd, 1, 24), (24, .bipush 120, 2, 26), (26, .if_icmp .le 9, 3, 29), (29, .aload_n 0, 1, 30), (30, .iconst 1, 1, 31), (31, .invokevirtual 117, 3, 34), (34, .ireturn, 1, 35), (35, .iload_n 2, 1, 36), (36, .iconst 1, 1, 37), (37, .isub, 1, 38), (38, .istore_n 3, 1, 39), (39, .iload_n 3, 1, 40), (40, .ifCond .lt 35, 3, 43), (43, .aload_n 0, 1, 44), (44, .getfield 25, 3, 47), (47, .aload_n 0, 1, 48), (48, .getfield 195, 3, 51), (51, .iload_n 1, 1, 52), (52, .bipush 8, 2, 54)], [(54, .iload_n 3, 1, 55), (55, .imul, 1, 56), (56, .ishr, 1, 57), (57, .i2b, 1, 58), (58, .bastore, 1, 59), (59, .aload_n 0, 1, 60), (60, .dup, 1, 61), (61, .getfield 195, 3, 64), (64, .iconst 1, 1, 65), (65, .iadd, 1, 66), (66, .putfield 195, 3, 69), (69, .iinc 3 (-1), 3, 72), (72, .goto (-33), 3, 75), (75, .aload_n 0, 1, 76), (76, .getfield 195, 3, 79), (79, .ireturn, 1, 80)]])
theorem ocX7_feed_0 : ((mX7_feed.2.2.2.2.2.2.getD 0 []).all fun e => decide (decode mX7_feed.2.1 e.1 = .ok (e.2.1, e.2.2.1)) && decide (e.2.2.2 = e.1 + e.2.2.1)) = true := by decide +kernel
theorem ocX7_feed_1 : ((mX7_feed.2.2.2.2.2.2.getD 1 []).all fun e => decide (decode mX7_feed.2.1 e.1 = .ok (e.2.1, e.2.2.1)) && decide (e.2.2.2 = e.1 + e.2.2.1)) = true := by decide +kernel
theorem odX7_feed : ic_okd mX7_feed = true := List.all_eq_true.mpr (List.forall_mem_cons.mpr ⟨ocX7_feed_0, List.forall_mem_cons.mpr ⟨ocX7_feed_1, fun _ hh => absurd hh List.not_mem_nil⟩⟩)
def mX7_wipe : ic_M := (⟨"IronCallModel", "wipe", "()I"⟩, prog_9_method_67_code, 2, (some .int), 0, 0, [[(0, .aload_n 0, 1, 1), (1, .getfield 195, 3, 4), (4, .istore_n 1, 1, 5), (5, .aload_n 0, 1, 6), (6, .iconst 0, 1, 7), (7, .putfield 195, 3, 10), (10, .iload_n 1, 1, 11), (11, .ireturn, 1, 12)]])
theorem odX7_wipe : ic_okd mX7_wipe = true := by decide +kernel
def mX7_letter : ic_M := (⟨"IronCallModel", "letter", "(I)I"⟩, prog_9_method_68_code, 1, (some .int), 0, 0, [[(0, .iload_n 0, 1, 1), (1, .bipush 97, 2, 3), (3, .if_icmp .lt 18, 3, 6), (6, .iload_n 0, 1, 7), (7, .bipush 122, 2, 9), (9, .if_icmp .gt 12, 3, 12), (12, .iload_n 0, 1, 13), (13, .bipush 97, 2, 15), (15, .isub, 1, 16), (16, .iconst 1, 1, 17), (17, .iadd, 1, 18), (18, .goto 4, 3, 21), (21, .iconst 0, 1, 22), (22, .ireturn, 1, 23)]])
theorem odX7_letter : ic_okd mX7_letter = true := by decide +kernel
def mX7_isDigit : ic_M := (⟨"IronCallModel", "isDigit", "(I)Z"⟩, prog_9_method_69_code, 1, (some .boolean), 0, 0, [[(0, .iload_n 0, 1, 1), (1, .bipush 48, 2, 3), (3, .if_icmp .lt 13, 3, 6), (6, .iload_n 0, 1, 7), (7, .bipush 57, 2, 9), (9, .if_icmp .gt 7, 3, 12), (12, .iconst 1, 1, 13), (13, .goto 4, 3, 16), (16, .iconst 0, 1, 17), (17, .ireturn, 1, 18)]])
theorem odX7_isDigit : ic_okd mX7_isDigit = true := by decide +kernel
def mX7_byteAt : ic_M := (⟨"IronCallModel", "byteAt", "(I)I"⟩, prog_9_method_70_code, 2, (some .int), 0, 0, [[(0, .iload_n 1, 1, 1), (1, .aload_n 0, 1, 2), (2, .getfield 195, 3, 5), (5, .if_icmp .ge 12, 3, 8), (8, .aload_n 0, 1, 9), (9, .getfield 25, 3, 12), (12, .iload_n 1, 1, 13), (13, .baload, 1, 14), (14, .goto 4, 3, 17), (17, .iconst (-1), 1, 18), (18, .ireturn, 1, 19)]])
theorem odX7_byteAt : ic_okd mX7_byteAt = true := by decide +kernel
def mX7_next : ic_M := (⟨"IronCallModel", "next", "()V"⟩, prog_9_method_71_code, 2, none, 1, 21, [[(0, .aload_n 0, 1, 1), (1, .aload_n 0, 1, 2), (2, .getfield 199, 3, 5), (5, .invokevirtual 202, 3, 8), (8, .bipush 32, 2, 10), (10, .if_icmp .ne 16, 3, 13), (13, .aload_n 0, 1, 14), (14, .dup, 1, 15), (15, .getfield 199, 3, 18), (18, .iconst 1, 1, 19), (19, .iadd, 1, 20), (20, .putfield 199, 3, 23), (23, .goto (-23), 3, 26), (26, .aload_n 0, 1, 27), (27, .aload_n 0, 1, 28), (28, .getfield 199, 3, 31), (31, .putfield 205, 3, 34), (34, .aload_n 0, 1, 35), (35, .lconst 0, 1, 36), (36, .putfield 208, 3, 39), (39, .aload_n 0, 1, 40), (40, .aload_n 0, 1, 41), (41, .getfield 199, 3, 44), (44, .invokevirtual 202, 3, 47), (47, .istore_n 1, 1, 48), (48, .aload_n 0, 1, 49), (49, .getfield 199, 3, 52), (52, .aload_n 0, 1, 53), (53, .getfield 195, 3, 56), (56, .if_icmp .ne 11, 3, 59), (59, .aload_n 0, 1, 60), (60, .iconst 0, 1, 61)], [(61, .putfield 212, 3, 64), (64, .goto 197, 3, 67), (67, .iload_n 1, 1, 68), (68, .bipush 59, 2, 70), (70, .if_icmp .ne 21, 3, 73), (73, .aload_n 0, 1, 74), (74, .iconst 3, 1, 75), (75, .putfield 212, 3, 78), (78, .aload_n 0, 1, 79), (79, .dup, 1, 80), (80, .getfield 199, 3, 83), (83, .iconst 1, 1, 84), (84, .iadd, 1, 85), (85, .putfield 199, 3, 88), (88, .goto 173, 3, 91), (91, .iload_n 1, 1, 92), (92, .invokestatic 215, 3, 95), (95, .ifCond .le 78, 3, 98), (98, .aload_n 0, 1, 99), (99, .iconst 1, 1, 100), (100, .putfield 212, 3, 103), (103, .aload_n 0, 1, 104), (104, .aload_n 0, 1, 105), (105, .getfield 199, 3, 108), (108, .invokevirtual 202, 3, 111), (111, .invokestatic 215, 3, 114), (114, .ifCond .le 147, 3, 117), (117, .aload_n 0, 1, 118), (118, .aload_n 0, 1, 119), (119, .getfield 208, 3, 122), (122, .ldc2_w 218, 3, 125), (125, .lcmp, 1, 126)], [(126, .ifCond .le 10, 3, 129), (129, .aload_n 0, 1, 130), (130, .getfield 208, 3, 133), (133, .goto 24, 3, 136), (136, .aload_n 0, 1, 137), (137, .getfield 208, 3, 140), (140, .ldc2_w 220, 3, 143), (143, .lmul, 1, 144), (144, .aload_n 0, 1, 145), (145, .aload_n 0, 1, 146), (146, .getfield 199, 3, 149), (149, .invokevirtual 202, 3, 152), (152, .invokestatic 215, 3, 155), (155, .i2l, 1, 156), (156, .ladd, 1, 157), (157, .putfield 208, 3, 160), (160, .aload_n 0, 1, 161), (161, .dup, 1, 162), (162, .getfield 199, 3, 165), (165, .iconst 1, 1, 166), (166, .iadd, 1, 167), (167, .putfield 199, 3, 170), (170, .goto (-67), 3, 173), (173, .iload_n 1, 1, 174), (174, .invokestatic 222, 3, 177), (177, .ifCond .eq 79, 3, 180), (180, .aload_n 0, 1, 181), (181, .iconst 2, 1, 182), (182, .putfield 212, 3, 185), (185, .aload_n 0, 1, 186), (186, .aload_n 0, 1, 187), (187, .getfield 199, 3, 190)], [(190, .invokevirtual 202, 3, 193), (193, .invokestatic 222, 3, 196), (196, .ifCond .eq 65, 3, 199), (199, .aload_n 0, 1, 200), (200, .aload_n 0, 1, 201), (201, .getfield 208, 3, 204), (204, .ldc2_w 132, 3, 207), (207, .lcmp, 1, 208), (208, .ifCond .le 10, 3, 211), (211, .aload_n 0, 1, 212), (212, .getfield 208, 3, 215), (215, .goto 25, 3, 218), (218, .aload_n 0, 1, 219), (219, .getfield 208, 3, 222), (222, .ldc2_w 225, 3, 225), (225, .lmul, 1, 226), (226, .aload_n 0, 1, 227), (227, .aload_n 0, 1, 228), (228, .getfield 199, 3, 231), (231, .invokevirtual 202, 3, 234), (234, .i2l, 1, 235), (235, .ladd, 1, 236), (236, .ldc2_w 227, 3, 239), (239, .lsub, 1, 240), (240, .putfield 208, 3, 243), (243, .aload_n 0, 1, 244), (244, .dup, 1, 245), (245, .getfield 199, 3, 248), (248, .iconst 1, 1, 249), (249, .iadd, 1, 250), (250, .putfield 199, 3, 253), (253, .goto (-68), 3, 256)], [(256, .aload_n 0, 1, 257), (257, .iconst 4, 1, 258), (258, .putfield 212, 3, 261), (261, .return_, 1, 262)]])
theorem ocX7_next_0 : ((mX7_next.2.2.2.2.2.2.getD 0 []).all fun e => decide (decode mX7_next.2.1 e.1 = .ok (e.2.1, e.2.2.1)) && decide (e.2.2.2 = e.1 + e.2.2.1)) = true := by decide +kernel
theorem ocX7_next_1 : ((mX7_next.2.2.2.2.2.2.getD 1 []).all fun e => decide (decode mX7_next.2.1 e.1 = .ok (e.2.1, e.2.2.1)) && decide (e.2.2.2 = e.1 + e.2.2.1)) = true := by decide +kernel
theorem ocX7_next_2 : ((mX7_next.2.2.2.2.2.2.getD 2 []).all fun e => decide (decode mX7_next.2.1 e.1 = .ok (e.2.1, e.2.2.1)) && decide (e.2.2.2 = e.1 + e.2.2.1)) = true := by decide +kernel
theorem ocX7_next_3 : ((mX7_next.2.2.2.2.2.2.getD 3 []).all fun e => decide (decode mX7_next.2.1 e.1 = .ok (e.2.1, e.2.2.1)) && decide (e.2.2.2 = e.1 + e.2.2.1)) = true := by decide +kernel
theorem ocX7_next_4 : ((mX7_next.2.2.2.2.2.2.getD 4 []).all fun e => decide (decode mX7_next.2.1 e.1 = .ok (e.2.1, e.2.2.1)) && decide (e.2.2.2 = e.1 + e.2.2.1)) = true := by decide +kernel
theorem odX7_next : ic_okd mX7_next = true := List.all_eq_true.mpr (List.forall_mem_cons.mpr ⟨ocX7_next_0, List.forall_mem_cons.mpr ⟨ocX7_next_1, List.forall_mem_cons.mpr ⟨ocX7_next_2, List.forall_mem_cons.mpr ⟨ocX7_next_3, List.forall_mem_cons.mpr ⟨ocX7_next_4, fun _ hh => absurd hh List.not_mem_nil⟩⟩⟩⟩⟩)
def mX7_wrongHere : ic_M := (⟨"IronCallModel", "wrongHere", "()V"⟩, prog_9_method_72_code, 1, none, 0, 0, [[(0, .aload_n 0, 1, 1), (1, .aload_n 0, 1, 2), (2, .getfield 229, 3, 5), (5, .ifCond .ge 10, 3, 8), (8, .aload_n 0, 1, 9), (9, .getfield 205, 3, 12), (12, .goto 7, 3, 15), (15, .aload_n 0, 1, 16), (16, .getfield 229, 3, 19), (19, .putfield 229, 3, 22), (22, .return_, 1, 23)]])
theorem odX7_wrongHere : ic_okd mX7_wrongHere = true := by decide +kernel
def mX7_isWord : ic_M := (⟨"IronCallModel", "isWord", "(J)Z"⟩, prog_9_method_73_code, 3, (some .boolean), 0, 0, [[(0, .aload_n 0, 1, 1), (1, .getfield 212, 3, 4), (4, .iconst 1, 1, 5), (5, .if_icmp .ne 16, 3, 8), (8, .aload_n 0, 1, 9), (9, .getfield 208, 3, 12), (12, .lload_n 1, 1, 13), (13, .lcmp, 1, 14), (14, .ifCond .ne 7, 3, 17), (17, .iconst 1, 1, 18), (18, .goto 4, 3, 21), (21, .iconst 0, 1, 22), (22, .ireturn, 1, 23)]])
theorem odX7_isWord : ic_okd mX7_isWord = true := by decide +kernel
def mX7_kindHere : ic_M := (⟨"IronCallModel", "kindHere", "()I"⟩, prog_9_method_74_code, 1, (some .int), 1, 22, [[(0, .aload_n 0, 1, 1), (1, .ldc2_w 232, 3, 4), (4, .invokevirtual 234, 3, 7), (7, .ifCond .eq 7, 3, 10), (10, .iconst 0, 1, 11), (11, .goto 89, 3, 14), (14, .aload_n 0, 1, 15), (15, .ldc2_w 238, 3, 18), (18, .invokevirtual 234, 3, 21), (21, .ifCond .eq 7, 3, 24), (24, .iconst 1, 1, 25), (25, .goto 75, 3, 28), (28, .aload_n 0, 1, 29), (29, .ldc2_w 240, 3, 32), (32, .invokevirtual 234, 3, 35), (35, .ifCond .eq 7, 3, 38), (38, .iconst 2, 1, 39), (39, .goto 61, 3, 42), (42, .aload_n 0, 1, 43), (43, .ldc2_w 242, 3, 46), (46, .invokevirtual 234, 3, 49), (49, .ifCond .eq 7, 3, 52), (52, .iconst 3, 1, 53), (53, .goto 47, 3, 56), (56, .aload_n 0, 1, 57), (57, .ldc2_w 244, 3, 60), (60, .invokevirtual 234, 3, 63), (63, .ifCond .eq 7, 3, 66), (66, .iconst 4, 1, 67), (67, .goto 33, 3, 70), (70, .aload_n 0, 1, 71), (71, .ldc2_w 246, 3, 74)], [(74, .invokevirtual 234, 3, 77), (77, .ifCond .eq 7, 3, 80), (80, .iconst 5, 1, 81), (81, .goto 19, 3, 84), (84, .aload_n 0, 1, 85), (85, .ldc2_w 248, 3, 88), (88, .invokevirtual 234, 3, 91), (91, .ifCond .eq 8, 3, 94), (94, .bipush 6, 2, 96), (96, .goto 4, 3, 99), (99, .iconst (-1), 1, 100), (100, .ireturn, 1, 101)]])
theorem ocX7_kindHere_0 : ((mX7_kindHere.2.2.2.2.2.2.getD 0 []).all fun e => decide (decode mX7_kindHere.2.1 e.1 = .ok (e.2.1, e.2.2.1)) && decide (e.2.2.2 = e.1 + e.2.2.1)) = true := by decide +kernel
theorem ocX7_kindHere_1 : ((mX7_kindHere.2.2.2.2.2.2.getD 1 []).all fun e => decide (decode mX7_kindHere.2.1 e.1 = .ok (e.2.1, e.2.2.1)) && decide (e.2.2.2 = e.1 + e.2.2.1)) = true := by decide +kernel
theorem odX7_kindHere : ic_okd mX7_kindHere = true := List.all_eq_true.mpr (List.forall_mem_cons.mpr ⟨ocX7_kindHere_0, List.forall_mem_cons.mpr ⟨ocX7_kindHere_1, fun _ hh => absurd hh List.not_mem_nil⟩⟩)
def mX7_numberHere : ic_M := (⟨"IronCallModel", "numberHere", "(II)I"⟩, prog_9_method_75_code, 4, (some .int), 2, 42, [[(0, .aload_n 0, 1, 1), (1, .getfield 208, 3, 4), (4, .l2i, 1, 5), (5, .istore_n 3, 1, 6), (6, .aload_n 0, 1, 7), (7, .getfield 212, 3, 10), (10, .iconst 2, 1, 11), (11, .if_icmp .ne 17, 3, 14), (14, .aload_n 0, 1, 15), (15, .getfield 208, 3, 18), (18, .iload_n 1, 1, 19), (19, .i2l, 1, 20), (20, .iload_n 2, 1, 21), (21, .i2l, 1, 22), (22, .invokestatic 42, 3, 25), (25, .ifCond .ne 9, 3, 28), (28, .aload_n 0, 1, 29), (29, .invokevirtual 250, 3, 32), (32, .iconst 0, 1, 33), (33, .ireturn, 1, 34), (34, .aload_n 0, 1, 35), (35, .invokevirtual 253, 3, 38), (38, .iload_n 3, 1, 39), (39, .ireturn, 1, 40)]])
theorem odX7_numberHere : ic_okd mX7_numberHere = true := by decide +kernel
def mX7_perhaps : ic_M := (⟨"IronCallModel", "perhaps", "(JIII)V"⟩, prog_9_method_76_code, 7, none, 3, 65, [[(0, .aload_n 0, 1, 1), (1, .getfield 229, 3, 4), (4, .ifCond .ge 40, 3, 7), (7, .aload_n 0, 1, 8), (8, .lload_n 1, 1, 9), (9, .invokevirtual 234, 3, 12), (12, .ifCond .eq 32, 3, 15), (15, .aload_n 0, 1, 16), (16, .invokevirtual 253, 3, 19), (19, .aload_n 0, 1, 20), (20, .iload 4, 2, 22), (22, .iload 5, 2, 24), (24, .invokevirtual 256, 3, 27), (27, .istore 6, 2, 29), (29, .aload_n 0, 1, 30), (30, .getfield 229, 3, 33), (33, .ifCond .ge 11, 3, 36), (36, .aload_n 0, 1, 37), (37, .getfield 7, 3, 40), (40, .iload_n 3, 1, 41), (41, .iload 6, 2, 43), (43, .iastore, 1, 44), (44, .return_, 1, 45)]])
theorem odX7_perhaps : ic_okd mX7_perhaps = true := by decide +kernel
def mX7_thingHere : ic_M := (⟨"IronCallModel", "thingHere", "(I)V"⟩, prog_9_method_77_code, 3, none, 4, 91, [[(0, .aload_n 0, 1, 1), (1, .getfield 7, 3, 4), (4, .iconst 0, 1, 5), (5, .iaload, 1, 6), (6, .bipush 8, 2, 8), (8, .if_icmp .ne 8, 3, 11), (11, .aload_n 0, 1, 12), (12, .invokevirtual 250, 3, 15), (15, .return_, 1, 16), (16, .aload_n 0, 1, 17), (17, .invokevirtual 253, 3, 20), (20, .aload_n 0, 1, 21), (21, .iload_n 1, 1, 22), (22, .iconst 0, 1, 23), (23, .invokevirtual 122, 3, 26), (26, .istore_n 2, 1, 27), (27, .aload_n 0, 1, 28), (28, .ldc2_w 259, 3, 31), (31, .bipush 15, 2, 33), (33, .iload_n 2, 1, 34), (34, .iadd, 1, 35), (35, .iconst 0, 1, 36), (36, .bipush 15, 2, 38), (38, .invokevirtual 261, 3, 41), (41, .aload_n 0, 1, 42), (42, .ldc2_w 265, 3, 45), (45, .bipush 23, 2, 47), (47, .iload_n 2, 1, 48), (48, .iadd, 1, 49), (49, .iconst 1, 1, 50), (50, .bipush 99, 2, 52), (52, .invokevirtual 261, 3, 55)], [(55, .aload_n 0, 1, 56), (56, .ldc2_w 267, 3, 59), (59, .bipush 31, 2, 61), (61, .iload_n 2, 1, 62), (62, .iadd, 1, 63), (63, .iconst 0, 1, 64), (64, .sipush 999, 3, 67), (67, .invokevirtual 261, 3, 70), (70, .aload_n 0, 1, 71), (71, .getfield 229, 3, 74), (74, .ifCond .ge 24, 3, 77), (77, .aload_n 0, 1, 78), (78, .ldc2_w 269, 3, 81), (81, .invokevirtual 234, 3, 84), (84, .ifCond .eq 14, 3, 87), (87, .aload_n 0, 1, 88), (88, .iload_n 2, 1, 89), (89, .iconst 4, 1, 90), (90, .iconst 1, 1, 91), (91, .invokevirtual 79, 3, 94), (94, .aload_n 0, 1, 95), (95, .invokevirtual 253, 3, 98), (98, .return_, 1, 99)]])
theorem ocX7_thingHere_0 : ((mX7_thingHere.2.2.2.2.2.2.getD 0 []).all fun e => decide (decode mX7_thingHere.2.1 e.1 = .ok (e.2.1, e.2.2.1)) && decide (e.2.2.2 = e.1 + e.2.2.1)) = true := by decide +kernel
theorem ocX7_thingHere_1 : ((mX7_thingHere.2.2.2.2.2.2.getD 1 []).all fun e => decide (decode mX7_thingHere.2.1 e.1 = .ok (e.2.1, e.2.2.1)) && decide (e.2.2.2 = e.1 + e.2.2.1)) = true := by decide +kernel
theorem odX7_thingHere : ic_okd mX7_thingHere = true := List.all_eq_true.mpr (List.forall_mem_cons.mpr ⟨ocX7_thingHere_0, List.forall_mem_cons.mpr ⟨ocX7_thingHere_1, fun _ hh => absurd hh List.not_mem_nil⟩⟩)
def mX7_cartHere : ic_M := (⟨"IronCallModel", "cartHere", "()V"⟩, prog_9_method_78_code, 2, none, 4, 91, [[(0, .aload_n 0, 1, 1), (1, .invokevirtual 253, 3, 4), (4, .aload_n 0, 1, 5), (5, .iconst 0, 1, 6), (6, .bipush 15, 2, 8), (8, .invokevirtual 256, 3, 11), (11, .istore_n 1, 1, 12), (12, .aload_n 0, 1, 13), (13, .getfield 229, 3, 16), (16, .ifCond .lt 4, 3, 19), (19, .return_, 1, 20), (20, .aload_n 0, 1, 21), (21, .getfield 7, 3, 24), (24, .iconst 3, 1, 25), (25, .iload_n 1, 1, 26), (26, .iastore, 1, 27), (27, .aload_n 0, 1, 28), (28, .getfield 7, 3, 31), (31, .iconst 4, 1, 32), (32, .iconst 1, 1, 33), (33, .iastore, 1, 34), (34, .aload_n 0, 1, 35), (35, .ldc2_w 271, 3, 38), (38, .invokevirtual 234, 3, 41), (41, .ifCond .eq 14, 3, 44), (44, .aload_n 0, 1, 45), (45, .getfield 7, 3, 48), (48, .iconst 4, 1, 49), (49, .iconst 0, 1, 50), (50, .iastore, 1, 51), (51, .aload_n 0, 1, 52), (52, .invokevirtual 253, 3, 55)], [(55, .aload_n 0, 1, 56), (56, .ldc2_w 273, 3, 59), (59, .iconst 5, 1, 60), (60, .iconst 0, 1, 61), (61, .iconst 3, 1, 62), (62, .invokevirtual 261, 3, 65), (65, .return_, 1, 66)]])
theorem ocX7_cartHere_0 : ((mX7_cartHere.2.2.2.2.2.2.getD 0 []).all fun e => decide (decode mX7_cartHere.2.1 e.1 = .ok (e.2.1, e.2.2.1)) && decide (e.2.2.2 = e.1 + e.2.2.1)) = true := by decide +kernel
theorem ocX7_cartHere_1 : ((mX7_cartHere.2.2.2.2.2.2.getD 1 []).all fun e => decide (decode mX7_cartHere.2.1 e.1 = .ok (e.2.1, e.2.2.1)) && decide (e.2.2.2 = e.1 + e.2.2.1)) = true := by decide +kernel
theorem odX7_cartHere : ic_okd mX7_cartHere = true := List.all_eq_true.mpr (List.forall_mem_cons.mpr ⟨ocX7_cartHere_0, List.forall_mem_cons.mpr ⟨ocX7_cartHere_1, fun _ hh => absurd hh List.not_mem_nil⟩⟩)
def mX7_item : ic_M := (⟨"IronCallModel", "item", "()V"⟩, prog_9_method_79_code, 2, none, 5, 113, [[(0, .aload_n 0, 1, 1), (1, .invokevirtual 275, 3, 4), (4, .istore_n 1, 1, 5), (5, .iload_n 1, 1, 6), (6, .ifCond .lt 11, 3, 9), (9, .aload_n 0, 1, 10), (10, .iload_n 1, 1, 11), (11, .invokevirtual 278, 3, 14), (14, .goto 55, 3, 17), (17, .aload_n 0, 1, 18), (18, .ldc2_w 281, 3, 21), (21, .invokevirtual 234, 3, 24), (24, .ifCond .eq 10, 3, 27), (27, .aload_n 0, 1, 28), (28, .invokevirtual 283, 3, 31), (31, .goto 38, 3, 34), (34, .aload_n 0, 1, 35), (35, .ldc2_w 286, 3, 38), (38, .invokevirtual 234, 3, 41), (41, .ifCond .eq 24, 3, 44), (44, .aload_n 0, 1, 45), (45, .invokevirtual 253, 3, 48), (48, .aload_n 0, 1, 49), (49, .getfield 7, 3, 52), (52, .bipush 6, 2, 54), (54, .aload_n 0, 1, 55), (55, .iconst 0, 1, 56), (56, .bipush 20, 2, 58), (58, .invokevirtual 256, 3, 61), (61, .iastore, 1, 62), (62, .goto 7, 3, 65), (65, .aload_n 0, 1, 66)], [(66, .invokevirtual 250, 3, 69), (69, .return_, 1, 70)]])
theorem ocX7_item_0 : ((mX7_item.2.2.2.2.2.2.getD 0 []).all fun e => decide (decode mX7_item.2.1 e.1 = .ok (e.2.1, e.2.2.1)) && decide (e.2.2.2 = e.1 + e.2.2.1)) = true := by decide +kernel
theorem ocX7_item_1 : ((mX7_item.2.2.2.2.2.2.getD 1 []).all fun e => decide (decode mX7_item.2.1 e.1 = .ok (e.2.1, e.2.2.1)) && decide (e.2.2.2 = e.1 + e.2.2.1)) = true := by decide +kernel
theorem odX7_item : ic_okd mX7_item = true := List.all_eq_true.mpr (List.forall_mem_cons.mpr ⟨ocX7_item_0, List.forall_mem_cons.mpr ⟨ocX7_item_1, fun _ hh => absurd hh List.not_mem_nil⟩⟩)
def mX7_items : ic_M := (⟨"IronCallModel", "items", "()I"⟩, prog_9_method_80_code, 2, (some .int), 6, 134, [[(0, .aload_n 0, 1, 1), (1, .iconst 0, 1, 2), (2, .putfield 199, 3, 5), (5, .aload_n 0, 1, 6), (6, .iconst (-1), 1, 7), (7, .putfield 229, 3, 10), (10, .aload_n 0, 1, 11), (11, .invokevirtual 253, 3, 14), (14, .aload_n 0, 1, 15), (15, .invokevirtual 288, 3, 18), (18, .iconst 1, 1, 19), (19, .istore_n 1, 1, 20), (20, .aload_n 0, 1, 21), (21, .getfield 229, 3, 24), (24, .ifCond .ge 25, 3, 27), (27, .aload_n 0, 1, 28), (28, .getfield 212, 3, 31), (31, .iconst 3, 1, 32), (32, .if_icmp .ne 17, 3, 35), (35, .aload_n 0, 1, 36), (36, .invokevirtual 253, 3, 39), (39, .aload_n 0, 1, 40), (40, .invokevirtual 288, 3, 43), (43, .iinc 1 1, 3, 46), (46, .goto (-26), 3, 49), (49, .aload_n 0, 1, 50), (50, .getfield 229, 3, 53), (53, .ifCond .ge 14, 3, 56), (56, .aload_n 0, 1, 57), (57, .getfield 212, 3, 60), (60, .ifCond .eq 7, 3, 63), (63, .aload_n 0, 1, 64)], [(64, .invokevirtual 250, 3, 67), (67, .iload_n 1, 1, 68), (68, .ireturn, 1, 69)]])
theorem ocX7_items_0 : ((mX7_items.2.2.2.2.2.2.getD 0 []).all fun e => decide (decode mX7_items.2.1 e.1 = .ok (e.2.1, e.2.2.1)) && decide (e.2.2.2 = e.1 + e.2.2.1)) = true := by decide +kernel
theorem ocX7_items_1 : ((mX7_items.2.2.2.2.2.2.getD 1 []).all fun e => decide (decode mX7_items.2.1 e.1 = .ok (e.2.1, e.2.2.1)) && decide (e.2.2.2 = e.1 + e.2.2.1)) = true := by decide +kernel
theorem odX7_items : ic_okd mX7_items = true := List.all_eq_true.mpr (List.forall_mem_cons.mpr ⟨ocX7_items_0, List.forall_mem_cons.mpr ⟨ocX7_items_1, fun _ hh => absurd hh List.not_mem_nil⟩⟩)
def mX7_text : ic_M := (⟨"IronCallModel", "text", "()I"⟩, prog_9_method_81_code, 2, (some .int), 7, 155, [[(0, .aload_n 0, 1, 1), (1, .getfield 7, 3, 4), (4, .aload_n 0, 1, 5), (5, .getfield 13, 3, 8), (8, .invokestatic 160, 3, 11), (11, .aload_n 0, 1, 12), (12, .invokevirtual 291, 3, 15), (15, .istore_n 1, 1, 16), (16, .aload_n 0, 1, 17), (17, .iconst 0, 1, 18), (18, .putfield 195, 3, 21), (21, .aload_n 0, 1, 22), (22, .getfield 229, 3, 25), (25, .ifCond .lt 21, 3, 28), (28, .aload_n 0, 1, 29), (29, .getfield 13, 3, 32), (32, .aload_n 0, 1, 33), (33, .getfield 7, 3, 36), (36, .invokestatic 160, 3, 39), (39, .iconst (-1), 1, 40), (40, .aload_n 0, 1, 41), (41, .getfield 229, 3, 44), (44, .isub, 1, 45), (45, .ireturn, 1, 46), (46, .iload_n 1, 1, 47), (47, .ireturn, 1, 48)]])
theorem odX7_text : ic_okd mX7_text = true := by decide +kernel
def mX7_hold : ic_M := (⟨"IronCallModel", "hold", "(II)I"⟩, prog_9_method_82_code, 3, (some .int), 1, 25, [[(0, .iload_n 1, 1, 1), (1, .i2l, 1, 2), (2, .lconst 0, 1, 3), (3, .ldc2_w 294, 3, 6), (6, .invokestatic 42, 3, 9), (9, .ifCond .eq 23, 3, 12), (12, .iload_n 2, 1, 13), (13, .i2l, 1, 14), (14, .ldc2_w 296, 3, 17), (17, .aload_n 0, 1, 18), (18, .getfield 7, 3, 21), (21, .iconst 0, 1, 22), (22, .iaload, 1, 23), (23, .iconst 1, 1, 24), (24, .isub, 1, 25), (25, .i2l, 1, 26), (26, .invokestatic 42, 3, 29), (29, .ifCond .ne 9, 3, 32), (32, .aload_n 0, 1, 33), (33, .iconst 0, 1, 34), (34, .invokevirtual 117, 3, 37), (37, .ireturn, 1, 38), (38, .aload_n 0, 1, 39), (39, .getfield 7, 3, 42), (42, .bipush 63, 2, 44), (44, .iload_n 1, 1, 45), (45, .iadd, 1, 46), (46, .iload_n 2, 1, 47), (47, .iconst 1, 1, 48), (48, .iadd, 1, 49), (49, .iastore, 1, 50), (50, .iconst 1, 1, 51)], [(51, .ireturn, 1, 52)]])
theorem ocX7_hold_0 : ((mX7_hold.2.2.2.2.2.2.getD 0 []).all fun e => decide (decode mX7_hold.2.1 e.1 = .ok (e.2.1, e.2.2.1)) && decide (e.2.2.2 = e.1 + e.2.2.1)) = true := by decide +kernel
theorem ocX7_hold_1 : ((mX7_hold.2.2.2.2.2.2.getD 1 []).all fun e => decide (decode mX7_hold.2.1 e.1 = .ok (e.2.1, e.2.2.1)) && decide (e.2.2.2 = e.1 + e.2.2.1)) = true := by decide +kernel
theorem odX7_hold : ic_okd mX7_hold = true := List.all_eq_true.mpr (List.forall_mem_cons.mpr ⟨ocX7_hold_0, List.forall_mem_cons.mpr ⟨ocX7_hold_1, fun _ hh => absurd hh List.not_mem_nil⟩⟩)
def mX7_above : ic_M := (⟨"IronCallModel", "above", "(I)I"⟩, prog_9_method_83_code, 1, (some .int), 0, 0, [[(0, .iload_n 0, 1, 1), (1, .iconst 3, 1, 2), (2, .if_icmp .ne 7, 3, 5), (5, .iconst 1, 1, 6), (6, .goto 23, 3, 9), (9, .iload_n 0, 1, 10), (10, .iconst 4, 1, 11), (11, .if_icmp .ne 7, 3, 14), (14, .iconst 3, 1, 15), (15, .goto 14, 3, 18), (18, .iload_n 0, 1, 19), (19, .bipush 6, 2, 21), (21, .if_icmp .ne 7, 3, 24), (24, .iconst 2, 1, 25), (25, .goto 4, 3, 28), (28, .iconst 0, 1, 29), (29, .ireturn, 1, 30)]])
theorem odX7_above : ic_okd mX7_above = true := by decide +kernel
def mX7_as : ic_M := (⟨"IronCallModel", "as", "(II)I"⟩, prog_9_method_84_code, 5, (some .int), 1, 25, [[(0, .iload_n 1, 1, 1), (1, .i2l, 1, 2), (2, .lconst 0, 1, 3), (3, .ldc2_w 294, 3, 6), (6, .invokestatic 42, 3, 9), (9, .ifCond .eq 15, 3, 12), (12, .iload_n 2, 1, 13), (13, .i2l, 1, 14), (14, .lconst 0, 1, 15), (15, .ldc2_w 120, 3, 18), (18, .invokestatic 42, 3, 21), (21, .ifCond .ne 9, 3, 24), (24, .aload_n 0, 1, 25), (25, .iconst 0, 1, 26), (26, .invokevirtual 117, 3, 29), (29, .ireturn, 1, 30), (30, .aload_n 0, 1, 31), (31, .getfield 7, 3, 34), (34, .bipush 63, 2, 36), (36, .iload_n 1, 1, 37), (37, .iadd, 1, 38), (38, .iaload, 1, 39), (39, .ifCond .ne 9, 3, 42), (42, .aload_n 0, 1, 43), (43, .iconst 5, 1, 44), (44, .invokevirtual 117, 3, 47), (47, .ireturn, 1, 48), (48, .aload_n 0, 1, 49), (49, .getfield 7, 3, 52), (52, .bipush 63, 2, 54), (54, .iload_n 1, 1, 55), (55, .iadd, 1, 56)], [(56, .iaload, 1, 57), (57, .iconst 1, 1, 58), (58, .isub, 1, 59), (59, .istore_n 3, 1, 60), (60, .aload_n 0, 1, 61), (61, .iload_n 3, 1, 62), (62, .iconst 0, 1, 63), (63, .invokevirtual 48, 3, 66), (66, .istore 4, 2, 68), (68, .iload_n 2, 1, 69), (69, .ifCond .eq 30, 3, 72), (72, .iload_n 2, 1, 73), (73, .iload 4, 2, 75), (75, .if_icmp .eq 24, 3, 78), (78, .iload_n 2, 1, 79), (79, .iload 4, 2, 81), (81, .invokestatic 298, 3, 84), (84, .if_icmp .eq 15, 3, 87), (87, .iload_n 2, 1, 88), (88, .iload 4, 2, 90), (90, .invokestatic 298, 3, 93), (93, .invokestatic 298, 3, 96), (96, .if_icmp .ne 7, 3, 99), (99, .iload_n 3, 1, 100), (100, .goto 8, 3, 103), (103, .aload_n 0, 1, 104), (104, .iconst 2, 1, 105), (105, .invokevirtual 117, 3, 108), (108, .ireturn, 1, 109)]])
theorem ocX7_as_0 : ((mX7_as.2.2.2.2.2.2.getD 0 []).all fun e => decide (decode mX7_as.2.1 e.1 = .ok (e.2.1, e.2.2.1)) && decide (e.2.2.2 = e.1 + e.2.2.1)) = true := by decide +kernel
theorem ocX7_as_1 : ((mX7_as.2.2.2.2.2.2.getD 1 []).all fun e => decide (decode mX7_as.2.1 e.1 = .ok (e.2.1, e.2.2.1)) && decide (e.2.2.2 = e.1 + e.2.2.1)) = true := by decide +kernel
theorem odX7_as : ic_okd mX7_as = true := List.all_eq_true.mpr (List.forall_mem_cons.mpr ⟨ocX7_as_0, List.forall_mem_cons.mpr ⟨ocX7_as_1, fun _ hh => absurd hh List.not_mem_nil⟩⟩)
def mX7_isSheet : ic_M := (⟨"IronCallModel", "isSheet", "(I)Z"⟩, prog_9_method_85_code, 1, (some .boolean), 1, 25, [[(0, .iload_n 0, 1, 1), (1, .i2l, 1, 2), (2, .lconst 0, 1, 3), (3, .ldc2_w 106, 3, 6), (6, .invokestatic 42, 3, 9), (9, .ireturn, 1, 10)]])
theorem odX7_isSheet : ic_okd mX7_isSheet = true := by decide +kernel
def mX7_sheet : ic_M := (⟨"IronCallModel", "sheet", "(III)I"⟩, prog_9_method_86_code, 5, (some .int), 2, 45, [[(0, .iload_n 1, 1, 1), (1, .invokestatic 301, 3, 4), (4, .ifCond .eq 25, 3, 7), (7, .iload_n 2, 1, 8), (8, .ifCond .eq 27, 3, 11), (11, .iload_n 2, 1, 12), (12, .bipush 8, 2, 14), (14, .if_icmp .eq 21, 3, 17), (17, .iload_n 2, 1, 18), (18, .bipush 16, 2, 20), (20, .if_icmp .eq 15, 3, 23), (23, .iload_n 2, 1, 24), (24, .bipush 32, 2, 26), (26, .if_icmp .eq 9, 3, 29), (29, .aload_n 0, 1, 30), (30, .iconst 0, 1, 31), (31, .invokevirtual 117, 3, 34), (34, .ireturn, 1, 35), (35, .iload_n 3, 1, 36), (36, .ifCond .ge 10, 3, 39), (39, .aload_n 0, 1, 40), (40, .bipush 6, 2, 42), (42, .invokevirtual 117, 3, 45), (45, .ireturn, 1, 46), (46, .iload_n 3, 1, 47), (47, .bipush 40, 2, 49), (49, .if_icmp .le 9, 3, 52), (52, .aload_n 0, 1, 53), (53, .iconst 0, 1, 54), (54, .invokevirtual 117, 3, 57), (57, .ireturn, 1, 58), (58, .aload_n 0, 1, 59)], [(59, .getfield 29, 3, 62), (62, .iload_n 1, 1, 63), (63, .iload_n 2, 1, 64), (64, .iastore, 1, 65), (65, .aload_n 0, 1, 66), (66, .getfield 32, 3, 69), (69, .iload_n 1, 1, 70), (70, .iload_n 2, 1, 71), (71, .ifCond .ne 7, 3, 74), (74, .iconst 0, 1, 75), (75, .goto 4, 3, 78), (78, .iload_n 3, 1, 79), (79, .iastore, 1, 80), (80, .iconst 0, 1, 81), (81, .istore 4, 2, 83), (83, .iload 4, 2, 85), (85, .bipush 40, 2, 87), (87, .if_icmp .ge 22, 3, 90), (90, .aload_n 0, 1, 91), (91, .getfield 35, 3, 94), (94, .bipush 40, 2, 96), (96, .iload_n 1, 1, 97), (97, .imul, 1, 98), (98, .iload 4, 2, 100), (100, .iadd, 1, 101), (101, .iconst 0, 1, 102), (102, .iastore, 1, 103), (103, .iinc 4 1, 3, 106), (106, .goto (-23), 3, 109), (109, .aload_n 0, 1, 110), (110, .getfield 32, 3, 113), (113, .iload_n 1, 1, 114)], [(114, .iaload, 1, 115), (115, .ireturn, 1, 116)]])
theorem ocX7_sheet_0 : ((mX7_sheet.2.2.2.2.2.2.getD 0 []).all fun e => decide (decode mX7_sheet.2.1 e.1 = .ok (e.2.1, e.2.2.1)) && decide (e.2.2.2 = e.1 + e.2.2.1)) = true := by decide +kernel
theorem ocX7_sheet_1 : ((mX7_sheet.2.2.2.2.2.2.getD 1 []).all fun e => decide (decode mX7_sheet.2.1 e.1 = .ok (e.2.1, e.2.2.1)) && decide (e.2.2.2 = e.1 + e.2.2.1)) = true := by decide +kernel
theorem ocX7_sheet_2 : ((mX7_sheet.2.2.2.2.2.2.getD 2 []).all fun e => decide (decode mX7_sheet.2.1 e.1 = .ok (e.2.1, e.2.2.1)) && decide (e.2.2.2 = e.1 + e.2.2.1)) = true := by decide +kernel
theorem odX7_sheet : ic_okd mX7_sheet = true := List.all_eq_true.mpr (List.forall_mem_cons.mpr ⟨ocX7_sheet_0, List.forall_mem_cons.mpr ⟨ocX7_sheet_1, List.forall_mem_cons.mpr ⟨ocX7_sheet_2, fun _ hh => absurd hh List.not_mem_nil⟩⟩⟩)
def mX7_whyNone : ic_M := (⟨"IronCallModel", "whyNone", "(I)I"⟩, prog_9_method_87_code, 2, (some .int), 2, 45, [[(0, .iload_n 1, 1, 1), (1, .invokestatic 301, 3, 4), (4, .ifCond .ne 7, 3, 7), (7, .iconst 0, 1, 8), (8, .goto 17, 3, 11), (11, .aload_n 0, 1, 12), (12, .getfield 29, 3, 15), (15, .iload_n 1, 1, 16), (16, .iaload, 1, 17), (17, .ifCond .ne 7, 3, 20), (20, .iconst 5, 1, 21), (21, .goto 4, 3, 24), (24, .iconst (-1), 1, 25), (25, .ireturn, 1, 26)]])
theorem odX7_whyNone : ic_okd mX7_whyNone = true := by decide +kernel
def mX7_write : ic_M := (⟨"IronCallModel", "write", "(III)I"⟩, prog_9_method_88_code, 5, (some .int), 3, 66, [[(0, .aload_n 0, 1, 1), (1, .iload_n 1, 1, 2), (2, .invokevirtual 179, 3, 5), (5, .istore 4, 2, 7), (7, .iload 4, 2, 9), (9, .ifCond .ge 25, 3, 12), (12, .iload_n 2, 1, 13), (13, .i2l, 1, 14), (14, .lconst 0, 1, 15), (15, .aload_n 0, 1, 16), (16, .getfield 32, 3, 19), (19, .iload_n 1, 1, 20), (20, .iaload, 1, 21), (21, .iconst 1, 1, 22), (22, .isub, 1, 23), (23, .i2l, 1, 24), (24, .invokestatic 42, 3, 27), (27, .ifCond .ne 7, 3, 30), (30, .iconst 0, 1, 31), (31, .goto 5, 3, 34), (34, .iload 4, 2, 36), (36, .istore 4, 2, 38), (38, .iload 4, 2, 40), (40, .ifCond .lt 10, 3, 43), (43, .aload_n 0, 1, 44), (44, .iload 4, 2, 46), (46, .invokevirtual 117, 3, 49), (49, .ireturn, 1, 50), (50, .aload_n 0, 1, 51), (51, .getfield 35, 3, 54), (54, .bipush 40, 2, 56), (56, .iload_n 1, 1, 57)], [(57, .imul, 1, 58), (58, .iload_n 2, 1, 59), (59, .iadd, 1, 60), (60, .aload_n 0, 1, 61), (61, .getfield 29, 3, 64), (64, .iload_n 1, 1, 65), (65, .iaload, 1, 66), (66, .bipush 8, 2, 68), (68, .if_icmp .ne 8, 3, 71), (71, .iload_n 3, 1, 72), (72, .i2b, 1, 73), (73, .goto 20, 3, 76), (76, .aload_n 0, 1, 77), (77, .getfield 29, 3, 80), (80, .iload_n 1, 1, 81), (81, .iaload, 1, 82), (82, .bipush 16, 2, 84), (84, .if_icmp .ne 8, 3, 87), (87, .iload_n 3, 1, 88), (88, .i2s, 1, 89), (89, .goto 4, 3, 92), (92, .iload_n 3, 1, 93), (93, .iastore, 1, 94), (94, .iconst 1, 1, 95), (95, .ireturn, 1, 96)]])
theorem ocX7_write_0 : ((mX7_write.2.2.2.2.2.2.getD 0 []).all fun e => decide (decode mX7_write.2.1 e.1 = .ok (e.2.1, e.2.2.1)) && decide (e.2.2.2 = e.1 + e.2.2.1)) = true := by decide +kernel
theorem ocX7_write_1 : ((mX7_write.2.2.2.2.2.2.getD 1 []).all fun e => decide (decode mX7_write.2.1 e.1 = .ok (e.2.1, e.2.2.1)) && decide (e.2.2.2 = e.1 + e.2.2.1)) = true := by decide +kernel
theorem odX7_write : ic_okd mX7_write = true := List.all_eq_true.mpr (List.forall_mem_cons.mpr ⟨ocX7_write_0, List.forall_mem_cons.mpr ⟨ocX7_write_1, fun _ hh => absurd hh List.not_mem_nil⟩⟩)
def mX7_copy : ic_M := (⟨"IronCallModel", "copy", "(IIIII)I"⟩, prog_9_method_89_code, 7, (some .int), 2, 45, [[(0, .iload_n 1, 1, 1), (1, .invokestatic 301, 3, 4), (4, .ifCond .eq 10, 3, 7), (7, .iload_n 3, 1, 8), (8, .invokestatic 301, 3, 11), (11, .ifCond .ne 9, 3, 14), (14, .aload_n 0, 1, 15), (15, .iconst 0, 1, 16), (16, .invokevirtual 117, 3, 19), (19, .ireturn, 1, 20), (20, .aload_n 0, 1, 21), (21, .getfield 29, 3, 24), (24, .iload_n 1, 1, 25), (25, .iaload, 1, 26), (26, .ifCond .eq 12, 3, 29), (29, .aload_n 0, 1, 30), (30, .getfield 29, 3, 33), (33, .iload_n 3, 1, 34), (34, .iaload, 1, 35), (35, .ifCond .ne 9, 3, 38), (38, .aload_n 0, 1, 39), (39, .iconst 5, 1, 40), (40, .invokevirtual 117, 3, 43), (43, .ireturn, 1, 44), (44, .aload_n 0, 1, 45), (45, .getfield 29, 3, 48), (48, .iload_n 1, 1, 49), (49, .iaload, 1, 50), (50, .aload_n 0, 1, 51), (51, .getfield 29, 3, 54), (54, .iload_n 3, 1, 55), (55, .iaload, 1, 56)], [(56, .if_icmp .eq 9, 3, 59), (59, .aload_n 0, 1, 60), (60, .iconst 2, 1, 61), (61, .invokevirtual 117, 3, 64), (64, .ireturn, 1, 65), (65, .iload_n 2, 1, 66), (66, .ifCond .lt 48, 3, 69), (69, .iload 4, 2, 71), (71, .ifCond .lt 43, 3, 74), (74, .iload 5, 2, 76), (76, .ifCond .lt 38, 3, 79), (79, .iload_n 2, 1, 80), (80, .i2l, 1, 81), (81, .iload 5, 2, 83), (83, .i2l, 1, 84), (84, .ladd, 1, 85), (85, .aload_n 0, 1, 86), (86, .getfield 32, 3, 89), (89, .iload_n 1, 1, 90), (90, .iaload, 1, 91), (91, .i2l, 1, 92), (92, .lcmp, 1, 93), (93, .ifCond .gt 21, 3, 96), (96, .iload 4, 2, 98), (98, .i2l, 1, 99), (99, .iload 5, 2, 101), (101, .i2l, 1, 102), (102, .ladd, 1, 103), (103, .aload_n 0, 1, 104), (104, .getfield 32, 3, 107), (107, .iload_n 3, 1, 108), (108, .iaload, 1, 109)], [(109, .i2l, 1, 110), (110, .lcmp, 1, 111), (111, .ifCond .le 9, 3, 114), (114, .aload_n 0, 1, 115), (115, .iconst 0, 1, 116), (116, .invokevirtual 117, 3, 119), (119, .ireturn, 1, 120), (120, .iconst 0, 1, 121), (121, .istore 6, 2, 123), (123, .iload 6, 2, 125), (125, .iload 5, 2, 127), (127, .if_icmp .ge 30, 3, 130), (130, .aload_n 0, 1, 131), (131, .getfield 38, 3, 134), (134, .iload 6, 2, 136), (136, .aload_n 0, 1, 137), (137, .getfield 35, 3, 140), (140, .bipush 40, 2, 142), (142, .iload_n 1, 1, 143), (143, .imul, 1, 144), (144, .iload_n 2, 1, 145), (145, .iadd, 1, 146), (146, .iload 6, 2, 148), (148, .iadd, 1, 149), (149, .iaload, 1, 150), (150, .iastore, 1, 151), (151, .iinc 6 1, 3, 154), (154, .goto (-31), 3, 157), (157, .iconst 0, 1, 158), (158, .istore 6, 2, 160), (160, .iload 6, 2, 162), (162, .iload 5, 2, 164)], [(164, .if_icmp .ge 31, 3, 167), (167, .aload_n 0, 1, 168), (168, .getfield 35, 3, 171), (171, .bipush 40, 2, 173), (173, .iload_n 3, 1, 174), (174, .imul, 1, 175), (175, .iload 4, 2, 177), (177, .iadd, 1, 178), (178, .iload 6, 2, 180), (180, .iadd, 1, 181), (181, .aload_n 0, 1, 182), (182, .getfield 38, 3, 185), (185, .iload 6, 2, 187), (187, .iaload, 1, 188), (188, .iastore, 1, 189), (189, .iinc 6 1, 3, 192), (192, .goto (-32), 3, 195), (195, .iload 5, 2, 197), (197, .ireturn, 1, 198)]])
theorem ocX7_copy_0 : ((mX7_copy.2.2.2.2.2.2.getD 0 []).all fun e => decide (decode mX7_copy.2.1 e.1 = .ok (e.2.1, e.2.2.1)) && decide (e.2.2.2 = e.1 + e.2.2.1)) = true := by decide +kernel
theorem ocX7_copy_1 : ((mX7_copy.2.2.2.2.2.2.getD 1 []).all fun e => decide (decode mX7_copy.2.1 e.1 = .ok (e.2.1, e.2.2.1)) && decide (e.2.2.2 = e.1 + e.2.2.1)) = true := by decide +kernel
theorem ocX7_copy_2 : ((mX7_copy.2.2.2.2.2.2.getD 2 []).all fun e => decide (decode mX7_copy.2.1 e.1 = .ok (e.2.1, e.2.2.1)) && decide (e.2.2.2 = e.1 + e.2.2.1)) = true := by decide +kernel
theorem ocX7_copy_3 : ((mX7_copy.2.2.2.2.2.2.getD 3 []).all fun e => decide (decode mX7_copy.2.1 e.1 = .ok (e.2.1, e.2.2.1)) && decide (e.2.2.2 = e.1 + e.2.2.1)) = true := by decide +kernel
theorem odX7_copy : ic_okd mX7_copy = true := List.all_eq_true.mpr (List.forall_mem_cons.mpr ⟨ocX7_copy_0, List.forall_mem_cons.mpr ⟨ocX7_copy_1, List.forall_mem_cons.mpr ⟨ocX7_copy_2, List.forall_mem_cons.mpr ⟨ocX7_copy_3, fun _ hh => absurd hh List.not_mem_nil⟩⟩⟩⟩)
def mX7_load : ic_M := (⟨"IronCallModel", "load", "(I)I"⟩, prog_9_method_90_code, 4, (some .int), 3, 66, [[(0, .aload_n 0, 1, 1), (1, .iload_n 1, 1, 2), (2, .invokevirtual 179, 3, 5), (5, .istore_n 2, 1, 6), (6, .iload_n 2, 1, 7), (7, .ifCond .lt 9, 3, 10), (10, .aload_n 0, 1, 11), (11, .iload_n 2, 1, 12), (12, .invokevirtual 117, 3, 15), (15, .ireturn, 1, 16), (16, .iconst 0, 1, 17), (17, .istore_n 3, 1, 18), (18, .iload_n 3, 1, 19), (19, .aload_n 0, 1, 20), (20, .getfield 32, 3, 23), (23, .iload_n 1, 1, 24), (24, .iaload, 1, 25), (25, .if_icmp .ge 58, 3, 28), (28, .iload_n 3, 1, 29), (29, .aload_n 0, 1, 30), (30, .getfield 7, 3, 33), (33, .iconst 0, 1, 34), (34, .iaload, 1, 35), (35, .if_icmp .ge 48, 3, 38), (38, .aload_n 0, 1, 39), (39, .getfield 35, 3, 42), (42, .bipush 40, 2, 44), (44, .iload_n 1, 1, 45), (45, .imul, 1, 46), (46, .iload_n 3, 1, 47), (47, .iadd, 1, 48), (48, .iaload, 1, 49)], [(49, .i2l, 1, 50), (50, .lconst 1, 1, 51), (51, .ldc2_w 130, 3, 54), (54, .invokestatic 42, 3, 57), (57, .ifCond .eq 26, 3, 60), (60, .aload_n 0, 1, 61), (61, .iload_n 3, 1, 62), (62, .iconst 2, 1, 63), (63, .aload_n 0, 1, 64), (64, .getfield 35, 3, 67), (67, .bipush 40, 2, 69), (69, .iload_n 1, 1, 70), (70, .imul, 1, 71), (71, .iload_n 3, 1, 72), (72, .iadd, 1, 73), (73, .iaload, 1, 74), (74, .invokevirtual 79, 3, 77), (77, .iinc 3 1, 3, 80), (80, .goto (-62), 3, 83), (83, .iload_n 3, 1, 84), (84, .ireturn, 1, 85)]])
theorem ocX7_load_0 : ((mX7_load.2.2.2.2.2.2.getD 0 []).all fun e => decide (decode mX7_load.2.1 e.1 = .ok (e.2.1, e.2.2.1)) && decide (e.2.2.2 = e.1 + e.2.2.1)) = true := by decide +kernel
theorem ocX7_load_1 : ((mX7_load.2.2.2.2.2.2.getD 1 []).all fun e => decide (decode mX7_load.2.1 e.1 = .ok (e.2.1, e.2.2.1)) && decide (e.2.2.2 = e.1 + e.2.2.1)) = true := by decide +kernel
theorem odX7_load : ic_okd mX7_load = true := List.all_eq_true.mpr (List.forall_mem_cons.mpr ⟨ocX7_load_0, List.forall_mem_cons.mpr ⟨ocX7_load_1, fun _ hh => absurd hh List.not_mem_nil⟩⟩)
def mX7_judge : ic_M := (⟨"IronCallModel", "judge", "(I)I"⟩, prog_9_method_91_code, 4, (some .int), 3, 66, [[(0, .aload_n 0, 1, 1), (1, .iload_n 1, 1, 2), (2, .invokevirtual 179, 3, 5), (5, .istore_n 2, 1, 6), (6, .iload_n 2, 1, 7), (7, .ifCond .lt 9, 3, 10), (10, .aload_n 0, 1, 11), (11, .iload_n 2, 1, 12), (12, .invokevirtual 117, 3, 15), (15, .ireturn, 1, 16), (16, .iconst 0, 1, 17), (17, .istore_n 3, 1, 18), (18, .iload_n 3, 1, 19), (19, .aload_n 0, 1, 20), (20, .getfield 32, 3, 23), (23, .iload_n 1, 1, 24), (24, .iaload, 1, 25), (25, .if_icmp .ge 41, 3, 28), (28, .aload_n 0, 1, 29), (29, .iload_n 3, 1, 30), (30, .invokevirtual 125, 3, 33), (33, .ifCond .eq 23, 3, 36), (36, .aload_n 0, 1, 37), (37, .getfield 35, 3, 40), (40, .bipush 40, 2, 42), (42, .iload_n 1, 1, 43), (43, .imul, 1, 44), (44, .iload_n 3, 1, 45), (45, .iadd, 1, 46), (46, .iaload, 1, 47), (47, .aload_n 0, 1, 48), (48, .iload_n 3, 1, 49)], [(49, .iconst 1, 1, 50), (50, .invokevirtual 48, 3, 53), (53, .if_icmp .eq 7, 3, 56), (56, .iconst 1, 1, 57), (57, .iload_n 3, 1, 58), (58, .iadd, 1, 59), (59, .ireturn, 1, 60), (60, .iinc 3 1, 3, 63), (63, .goto (-45), 3, 66), (66, .iconst 0, 1, 67), (67, .ireturn, 1, 68)]])
theorem ocX7_judge_0 : ((mX7_judge.2.2.2.2.2.2.getD 0 []).all fun e => decide (decode mX7_judge.2.1 e.1 = .ok (e.2.1, e.2.2.1)) && decide (e.2.2.2 = e.1 + e.2.2.1)) = true := by decide +kernel
theorem ocX7_judge_1 : ((mX7_judge.2.2.2.2.2.2.getD 1 []).all fun e => decide (decode mX7_judge.2.1 e.1 = .ok (e.2.1, e.2.2.1)) && decide (e.2.2.2 = e.1 + e.2.2.1)) = true := by decide +kernel
theorem odX7_judge : ic_okd mX7_judge = true := List.all_eq_true.mpr (List.forall_mem_cons.mpr ⟨ocX7_judge_0, List.forall_mem_cons.mpr ⟨ocX7_judge_1, fun _ hh => absurd hh List.not_mem_nil⟩⟩)
def mX7_image : ic_M := (⟨"IronCallModel", "image", "()I"⟩, prog_9_method_92_code, 1, (some .int), 1, 22, [[(0, .aload_n 0, 1, 1), (1, .getfield 7, 3, 4), (4, .aload_n 0, 1, 5), (5, .getfield 19, 3, 8), (8, .invokestatic 160, 3, 11), (11, .aload_n 0, 1, 12), (12, .iconst 1, 1, 13), (13, .putfield 304, 3, 16), (16, .iconst 1, 1, 17), (17, .ireturn, 1, 18)]])
theorem odX7_image : ic_okd mX7_image = true := by decide +kernel
def mX7_undo : ic_M := (⟨"IronCallModel", "undo", "()I"⟩, prog_9_method_93_code, 1, (some .int), 1, 22, [[(0, .aload_n 0, 1, 1), (1, .getfield 304, 3, 4), (4, .ifCond .ne 9, 3, 7), (7, .aload_n 0, 1, 8), (8, .iconst 3, 1, 9), (9, .invokevirtual 117, 3, 12), (12, .ireturn, 1, 13), (13, .aload_n 0, 1, 14), (14, .getfield 19, 3, 17), (17, .aload_n 0, 1, 18), (18, .getfield 7, 3, 21), (21, .invokestatic 160, 3, 24), (24, .aload_n 0, 1, 25), (25, .getfield 7, 3, 28), (28, .iconst 1, 1, 29), (29, .iaload, 1, 30), (30, .ireturn, 1, 31)]])
theorem odX7_undo : ic_okd mX7_undo = true := by decide +kernel
def mX7_tear : ic_M := (⟨"IronCallModel", "tear", "()I"⟩, prog_9_method_94_code, 2, (some .int), 0, 0, [[(0, .aload_n 0, 1, 1), (1, .getfield 304, 3, 4), (4, .ifCond .eq 7, 3, 7), (7, .iconst 1, 1, 8), (8, .goto 4, 3, 11), (11, .iconst 0, 1, 12), (12, .istore_n 1, 1, 13), (13, .aload_n 0, 1, 14), (14, .iconst 0, 1, 15), (15, .putfield 304, 3, 18), (18, .iload_n 1, 1, 19), (19, .ireturn, 1, 20)]])
theorem odX7_tear : ic_okd mX7_tear = true := by decide +kernel
def mX7_holding : ic_M := (⟨"IronCallModel", "holding", "()I"⟩, prog_9_method_95_code, 3, (some .int), 0, 0, [[(0, .iconst 0, 1, 1), (1, .istore_n 1, 1, 2), (2, .iconst 0, 1, 3), (3, .istore_n 2, 1, 4), (4, .iload_n 2, 1, 5), (5, .bipush 10, 2, 7), (7, .if_icmp .ge 29, 3, 10), (10, .iload_n 1, 1, 11), (11, .aload_n 0, 1, 12), (12, .getfield 7, 3, 15), (15, .bipush 63, 2, 17), (17, .iload_n 2, 1, 18), (18, .iadd, 1, 19), (19, .iaload, 1, 20), (20, .ifCond .le 7, 3, 23), (23, .iconst 1, 1, 24), (24, .goto 4, 3, 27), (27, .iconst 0, 1, 28), (28, .iadd, 1, 29), (29, .istore_n 1, 1, 30), (30, .iinc 2 1, 3, 33), (33, .goto (-29), 3, 36), (36, .iload_n 1, 1, 37), (37, .ireturn, 1, 38)]])
theorem odX7_holding : ic_okd mX7_holding = true := by decide +kernel
def mX7_count : ic_M := (⟨"IronCallModel", "count", "(I)I"⟩, prog_9_method_96_code, 2, (some .int), 2, 45, [[(0, .iload_n 1, 1, 1), (1, .tableswitch 100 0 7 #[47, 54, 61, 70, 76, 83, 88, 95], 47, 48), (48, .aload_n 0, 1, 49), (49, .getfield 7, 3, 52), (52, .iconst 1, 1, 53), (53, .iaload, 1, 54), (54, .ireturn, 1, 55), (55, .aload_n 0, 1, 56), (56, .getfield 7, 3, 59), (59, .iconst 0, 1, 60), (60, .iaload, 1, 61), (61, .ireturn, 1, 62), (62, .aload_n 0, 1, 63), (63, .iconst 5, 1, 64), (64, .invokevirtual 144, 3, 67), (67, .invokestatic 70, 3, 70), (70, .ireturn, 1, 71), (71, .aload_n 0, 1, 72), (72, .iconst 3, 1, 73), (73, .invokevirtual 147, 3, 76), (76, .ireturn, 1, 77), (77, .aload_n 0, 1, 78), (78, .bipush 6, 2, 80), (80, .invokevirtual 147, 3, 83), (83, .ireturn, 1, 84), (84, .aload_n 0, 1, 85), (85, .getfield 195, 3, 88), (88, .ireturn, 1, 89), (89, .aload_n 0, 1, 90), (90, .getfield 7, 3, 93), (93, .iconst 2, 1, 94), (94, .iaload, 1, 95)], [(95, .ireturn, 1, 96), (96, .aload_n 0, 1, 97), (97, .invokevirtual 308, 3, 100), (100, .ireturn, 1, 101), (101, .aload_n 0, 1, 102), (102, .iconst 0, 1, 103), (103, .invokevirtual 117, 3, 106), (106, .ireturn, 1, 107)]])
theorem ocX7_count_0 : ((mX7_count.2.2.2.2.2.2.getD 0 []).all fun e => decide (decode mX7_count.2.1 e.1 = .ok (e.2.1, e.2.2.1)) && decide (e.2.2.2 = e.1 + e.2.2.1)) = true := by decide +kernel
theorem ocX7_count_1 : ((mX7_count.2.2.2.2.2.2.getD 1 []).all fun e => decide (decode mX7_count.2.1 e.1 = .ok (e.2.1, e.2.2.1)) && decide (e.2.2.2 = e.1 + e.2.2.1)) = true := by decide +kernel
theorem odX7_count : ic_okd mX7_count = true := List.all_eq_true.mpr (List.forall_mem_cons.mpr ⟨ocX7_count_0, List.forall_mem_cons.mpr ⟨ocX7_count_1, fun _ hh => absurd hh List.not_mem_nil⟩⟩)
def mX7_status : ic_M := (⟨"IronCallModel", "status", "(I)I"⟩, prog_9_method_97_code, 4, (some .int), 1, 25, [[(0, .iload_n 1, 1, 1), (1, .i2l, 1, 2), (2, .ldc2_w 296, 3, 5), (5, .ldc2_w 120, 3, 8), (8, .invokestatic 42, 3, 11), (11, .ifCond .ne 9, 3, 14), (14, .aload_n 0, 1, 15), (15, .iconst 0, 1, 16), (16, .invokevirtual 117, 3, 19), (19, .ireturn, 1, 20), (20, .iconst 0, 1, 21), (21, .istore_n 2, 1, 22), (22, .iconst 0, 1, 23), (23, .istore_n 3, 1, 24), (24, .iload_n 3, 1, 25), (25, .bipush 7, 2, 27), (27, .if_icmp .ge 18, 3, 30), (30, .iload_n 2, 1, 31), (31, .aload_n 0, 1, 32), (32, .getfield 22, 3, 35), (35, .iload_n 3, 1, 36), (36, .iaload, 1, 37), (37, .iadd, 1, 38), (38, .istore_n 2, 1, 39), (39, .iinc 3 1, 3, 42), (42, .goto (-18), 3, 45), (45, .iload_n 1, 1, 46), (46, .ifCond .ge 7, 3, 49), (49, .iload_n 2, 1, 50), (50, .goto 9, 3, 53), (53, .aload_n 0, 1, 54), (54, .getfield 22, 3, 57)], [(57, .iload_n 1, 1, 58), (58, .iaload, 1, 59), (59, .ireturn, 1, 60)]])
theorem ocX7_status_0 : ((mX7_status.2.2.2.2.2.2.getD 0 []).all fun e => decide (decode mX7_status.2.1 e.1 = .ok (e.2.1, e.2.2.1)) && decide (e.2.2.2 = e.1 + e.2.2.1)) = true := by decide +kernel
theorem ocX7_status_1 : ((mX7_status.2.2.2.2.2.2.getD 1 []).all fun e => decide (decode mX7_status.2.1 e.1 = .ok (e.2.1, e.2.2.1)) && decide (e.2.2.2 = e.1 + e.2.2.1)) = true := by decide +kernel
theorem odX7_status : ic_okd mX7_status = true := List.all_eq_true.mpr (List.forall_mem_cons.mpr ⟨ocX7_status_0, List.forall_mem_cons.mpr ⟨ocX7_status_1, fun _ hh => absurd hh List.not_mem_nil⟩⟩)
def mJ0_length_8abf5 : ic_M := (⟨"java/lang/String", "length", "()I"⟩, prog_12_method_54_code, 1, (some .int), 1, 20, [[(0, .aload_n 0, 1, 1), (1, .getfield 9, 3, 4), (4, .arraylength, 1, 5), (5, .aload_n 0, 1, 6), (6, .invokevirtual 335, 3, 9), (9, .ishr, 1, 10), (10, .ireturn, 1, 11)]])
theorem odJ0_length_8abf5 : ic_okd mJ0_length_8abf5 = true := by decide +kernel
def mJ0_coder_7d493 : ic_M := (⟨"java/lang/String", "coder", "()B"⟩, prog_12_method_152_code, 1, (some .byte), 0, 0, [[(0, .getstatic 38, 3, 3), (3, .ifCond .eq 10, 3, 6), (6, .aload_n 0, 1, 7), (7, .getfield 15, 3, 10), (10, .goto 4, 3, 13), (13, .iconst 1, 1, 14), (14, .ireturn, 1, 15)]])
theorem odJ0_coder_7d493 : ic_okd mJ0_coder_7d493 = true := by decide +kernel
def mJ0_charAt_5068e : ic_M := (⟨"java/lang/String", "charAt", "(I)C"⟩, prog_12_method_56_code, 2, (some .char), 3, 64, [[(0, .aload_n 0, 1, 1), (1, .invokevirtual 492, 3, 4), (4, .ifCond .eq 12, 3, 7), (7, .aload_n 0, 1, 8), (8, .getfield 9, 3, 11), (11, .iload_n 1, 1, 12), (12, .invokestatic 495, 3, 15), (15, .ireturn, 1, 16), (16, .aload_n 0, 1, 17), (17, .getfield 9, 3, 20), (20, .iload_n 1, 1, 21), (21, .invokestatic 498, 3, 24), (24, .ireturn, 1, 25)]])
theorem odJ0_charAt_5068e : ic_okd mJ0_charAt_5068e = true := by decide +kernel
def mJ0_isLatin1_aae02 : ic_M := (⟨"java/lang/String", "isLatin1", "()Z"⟩, prog_12_method_154_code, 1, (some .boolean), 0, 0, [[(0, .getstatic 38, 3, 3), (3, .ifCond .eq 14, 3, 6), (6, .aload_n 0, 1, 7), (7, .getfield 15, 3, 10), (10, .ifCond .ne 7, 3, 13), (13, .iconst 1, 1, 14), (14, .goto 4, 3, 17), (17, .iconst 0, 1, 18), (18, .ireturn, 1, 19)]])
theorem odJ0_isLatin1_aae02 : ic_okd mJ0_isLatin1_aae02 = true := by decide +kernel
def mJ0_checkIndex_df160 : ic_M := (⟨"java/lang/String", "checkIndex", "(II)V"⟩, prog_12_method_155_code, 2, none, 1, 22, [[(0, .iload_n 0, 1, 1), (1, .iload_n 1, 1, 2), (2, .getstatic 1053, 3, 5), (5, .invokestatic 1059, 3, 8), (8, .pop, 1, 9), (9, .return_, 1, 10)]])
theorem odJ0_checkIndex_df160 : ic_okd mJ0_checkIndex_df160 = true := by decide +kernel
def mJ1_charAt_3b067 : ic_M := (⟨"java/lang/StringLatin1", "charAt", "([BI)C"⟩, prog_13_method_2_code, 2, (some .char), 2, 43, [[(0, .iload_n 1, 1, 1), (1, .aload_n 0, 1, 2), (2, .arraylength, 1, 3), (3, .invokestatic 9, 3, 6), (6, .aload_n 0, 1, 7), (7, .iload_n 1, 1, 8), (8, .baload, 1, 9), (9, .sipush 255, 3, 12), (12, .iand, 1, 13), (13, .i2c, 1, 14), (14, .ireturn, 1, 15)]])
theorem odJ1_charAt_3b067 : ic_okd mJ1_charAt_3b067 = true := by decide +kernel
def mJ3_checkIndex_8e157 : ic_M := (⟨"jdk/internal/util/Preconditions", "checkIndex", "(IILjava/util/function/BiFunction;)I"⟩, prog_16_method_11_code, 3, (some .int), 0, 0, [[(0, .iload_n 0, 1, 1), (1, .ifCond .lt 8, 3, 4), (4, .iload_n 0, 1, 5), (5, .iload_n 1, 1, 6), (6, .if_icmp .lt 10, 3, 9), (9, .aload_n 2, 1, 10), (10, .iload_n 0, 1, 11), (11, .iload_n 1, 1, 12), (12, .invokestatic 95, 3, 15), (15, .athrow, 1, 16), (16, .iload_n 0, 1, 17), (17, .ireturn, 1, 18)]])
theorem odJ3_checkIndex_8e157 : ic_okd mJ3_checkIndex_8e157 = true := by decide +kernel
def mJ6_bitCount_0f7a4 : ic_M := (⟨"java/lang/Integer", "bitCount", "(I)I"⟩, prog_10_method_49_code, 1, (some .int), 0, 0, [[(0, .iload_n 0, 1, 1), (1, .iload_n 0, 1, 2), (2, .iconst 1, 1, 3), (3, .iushr, 1, 4), (4, .ldc_w 265, 3, 7), (7, .iand, 1, 8), (8, .isub, 1, 9), (9, .istore_n 0, 1, 10), (10, .iload_n 0, 1, 11), (11, .ldc_w 266, 3, 14), (14, .iand, 1, 15), (15, .iload_n 0, 1, 16), (16, .iconst 2, 1, 17), (17, .iushr, 1, 18), (18, .ldc_w 266, 3, 21), (21, .iand, 1, 22), (22, .iadd, 1, 23), (23, .istore_n 0, 1, 24), (24, .iload_n 0, 1, 25), (25, .iload_n 0, 1, 26), (26, .iconst 4, 1, 27), (27, .iushr, 1, 28), (28, .iadd, 1, 29), (29, .ldc_w 267, 3, 32), (32, .iand, 1, 33), (33, .istore_n 0, 1, 34), (34, .iload_n 0, 1, 35), (35, .iload_n 0, 1, 36), (36, .bipush 8, 2, 38), (38, .iushr, 1, 39), (39, .iadd, 1, 40), (40, .istore_n 0, 1, 41)], [(41, .iload_n 0, 1, 42), (42, .iload_n 0, 1, 43), (43, .bipush 16, 2, 45), (45, .iushr, 1, 46), (46, .iadd, 1, 47), (47, .istore_n 0, 1, 48), (48, .iload_n 0, 1, 49), (49, .bipush 63, 2, 51), (51, .iand, 1, 52), (52, .ireturn, 1, 53)]])
theorem ocJ6_bitCount_0f7a4_0 : ((mJ6_bitCount_0f7a4.2.2.2.2.2.2.getD 0 []).all fun e => decide (decode mJ6_bitCount_0f7a4.2.1 e.1 = .ok (e.2.1, e.2.2.1)) && decide (e.2.2.2 = e.1 + e.2.2.1)) = true := by decide +kernel
theorem ocJ6_bitCount_0f7a4_1 : ((mJ6_bitCount_0f7a4.2.2.2.2.2.2.getD 1 []).all fun e => decide (decode mJ6_bitCount_0f7a4.2.1 e.1 = .ok (e.2.1, e.2.2.1)) && decide (e.2.2.2 = e.1 + e.2.2.1)) = true := by decide +kernel
theorem odJ6_bitCount_0f7a4 : ic_okd mJ6_bitCount_0f7a4 = true := List.all_eq_true.mpr (List.forall_mem_cons.mpr ⟨ocJ6_bitCount_0f7a4_0, List.forall_mem_cons.mpr ⟨ocJ6_bitCount_0f7a4_1, fun _ hh => absurd hh List.not_mem_nil⟩⟩)
def mL_law : ic_M := (⟨"IronCallLaw", "law", "([I)Z"⟩, code, 4, (some .boolean), 10, 228, [[(0, .new 7, 3, 3), (3, .dup, 1, 4), (4, .invokespecial 9, 3, 7), (7, .astore_n 1, 1, 8), (8, .new 10, 3, 11), (11, .dup, 1, 12), (12, .invokespecial 12, 3, 15), (15, .astore_n 2, 1, 16), (16, .iconst 0, 1, 17), (17, .istore_n 3, 1, 18), (18, .iload_n 3, 1, 19), (19, .aload_n 0, 1, 20), (20, .arraylength, 1, 21), (21, .bipush 6, 2, 23), (23, .isub, 1, 24), (24, .if_icmp .gt 1361, 3, 27), (27, .aload_n 0, 1, 28), (28, .iload_n 3, 1, 29), (29, .iaload, 1, 30), (30, .bipush 63, 2, 32), (32, .iand, 1, 33), (33, .tableswitch 1346 0 39 #[175, 208, 231, 264, 297, 340, 363, 386, 409, 452, 475, 498, 531, 564, 597, 630, 653, 686, 719, 752, 775, 808, 841, 864, 918, 941, 974, 987, 1000, 1033, 1066, 1109, 1152, 1215, 1238, 1261, 1274, 1287, 1300, 1323], 175, 208), (208, .aload_n 1, 1, 209), (209, .aload_n 0, 1, 210), (210, .iload_n 3, 1, 211), (211, .iconst 1, 1, 212), (212, .iadd, 1, 213), (213, .iaload, 1, 214), (214, .aload_n 0, 1, 215), (215, .iload_n 3, 1, 216), (216, .iconst 2, 1, 217), (217, .iadd, 1, 218)], [(218, .iaload, 1, 219), (219, .invokevirtual 13, 3, 222), (222, .aload_n 2, 1, 223), (223, .aload_n 0, 1, 224), (224, .iload_n 3, 1, 225), (225, .iconst 1, 1, 226), (226, .iadd, 1, 227), (227, .iaload, 1, 228), (228, .aload_n 0, 1, 229), (229, .iload_n 3, 1, 230), (230, .iconst 2, 1, 231), (231, .iadd, 1, 232), (232, .iaload, 1, 233), (233, .invokevirtual 17, 3, 236), (236, .if_icmp .eq 1143, 3, 239), (239, .iconst 0, 1, 240), (240, .ireturn, 1, 241), (241, .aload_n 1, 1, 242), (242, .aload_n 0, 1, 243), (243, .iload_n 3, 1, 244), (244, .iconst 1, 1, 245), (245, .iadd, 1, 246), (246, .iaload, 1, 247), (247, .invokevirtual 18, 3, 250), (250, .aload_n 2, 1, 251), (251, .aload_n 0, 1, 252), (252, .iload_n 3, 1, 253), (253, .iconst 1, 1, 254), (254, .iadd, 1, 255), (255, .iaload, 1, 256), (256, .invokevirtual 22, 3, 259), (259, .if_icmp .eq 1120, 3, 262)], [(262, .iconst 0, 1, 263), (263, .ireturn, 1, 264), (264, .aload_n 1, 1, 265), (265, .aload_n 0, 1, 266), (266, .iload_n 3, 1, 267), (267, .iconst 1, 1, 268), (268, .iadd, 1, 269), (269, .iaload, 1, 270), (270, .aload_n 0, 1, 271), (271, .iload_n 3, 1, 272), (272, .iconst 2, 1, 273), (273, .iadd, 1, 274), (274, .iaload, 1, 275), (275, .invokevirtual 23, 3, 278), (278, .aload_n 2, 1, 279), (279, .aload_n 0, 1, 280), (280, .iload_n 3, 1, 281), (281, .iconst 1, 1, 282), (282, .iadd, 1, 283), (283, .iaload, 1, 284), (284, .aload_n 0, 1, 285), (285, .iload_n 3, 1, 286), (286, .iconst 2, 1, 287), (287, .iadd, 1, 288), (288, .iaload, 1, 289), (289, .invokevirtual 26, 3, 292), (292, .if_icmp .eq 1087, 3, 295), (295, .iconst 0, 1, 296), (296, .ireturn, 1, 297), (297, .aload_n 1, 1, 298), (298, .aload_n 0, 1, 299), (299, .iload_n 3, 1, 300)], [(300, .iconst 1, 1, 301), (301, .iadd, 1, 302), (302, .iaload, 1, 303), (303, .aload_n 0, 1, 304), (304, .iload_n 3, 1, 305), (305, .iconst 2, 1, 306), (306, .iadd, 1, 307), (307, .iaload, 1, 308), (308, .invokevirtual 27, 3, 311), (311, .aload_n 2, 1, 312), (312, .aload_n 0, 1, 313), (313, .iload_n 3, 1, 314), (314, .iconst 1, 1, 315), (315, .iadd, 1, 316), (316, .iaload, 1, 317), (317, .aload_n 0, 1, 318), (318, .iload_n 3, 1, 319), (319, .iconst 2, 1, 320), (320, .iadd, 1, 321), (321, .iaload, 1, 322), (322, .invokevirtual 30, 3, 325), (325, .if_icmp .eq 1054, 3, 328), (328, .iconst 0, 1, 329), (329, .ireturn, 1, 330), (330, .aload_n 1, 1, 331), (331, .aload_n 0, 1, 332), (332, .iload_n 3, 1, 333), (333, .iconst 1, 1, 334), (334, .iadd, 1, 335), (335, .iaload, 1, 336), (336, .aload_n 0, 1, 337), (337, .iload_n 3, 1, 338)], [(338, .iconst 2, 1, 339), (339, .iadd, 1, 340), (340, .iaload, 1, 341), (341, .aload_n 0, 1, 342), (342, .iload_n 3, 1, 343), (343, .iconst 3, 1, 344), (344, .iadd, 1, 345), (345, .iaload, 1, 346), (346, .invokevirtual 31, 3, 349), (349, .aload_n 2, 1, 350), (350, .aload_n 0, 1, 351), (351, .iload_n 3, 1, 352), (352, .iconst 1, 1, 353), (353, .iadd, 1, 354), (354, .iaload, 1, 355), (355, .aload_n 0, 1, 356), (356, .iload_n 3, 1, 357), (357, .iconst 2, 1, 358), (358, .iadd, 1, 359), (359, .iaload, 1, 360), (360, .aload_n 0, 1, 361), (361, .iload_n 3, 1, 362), (362, .iconst 3, 1, 363), (363, .iadd, 1, 364), (364, .iaload, 1, 365), (365, .invokevirtual 35, 3, 368), (368, .if_icmp .eq 1011, 3, 371), (371, .iconst 0, 1, 372), (372, .ireturn, 1, 373), (373, .aload_n 1, 1, 374), (374, .aload_n 0, 1, 375), (375, .iload_n 3, 1, 376)], [(376, .iconst 1, 1, 377), (377, .iadd, 1, 378), (378, .iaload, 1, 379), (379, .invokevirtual 36, 3, 382), (382, .aload_n 2, 1, 383), (383, .aload_n 0, 1, 384), (384, .iload_n 3, 1, 385), (385, .iconst 1, 1, 386), (386, .iadd, 1, 387), (387, .iaload, 1, 388), (388, .invokevirtual 39, 3, 391), (391, .if_icmp .eq 988, 3, 394), (394, .iconst 0, 1, 395), (395, .ireturn, 1, 396), (396, .aload_n 1, 1, 397), (397, .aload_n 0, 1, 398), (398, .iload_n 3, 1, 399), (399, .iconst 1, 1, 400), (400, .iadd, 1, 401), (401, .iaload, 1, 402), (402, .invokevirtual 40, 3, 405), (405, .aload_n 2, 1, 406), (406, .aload_n 0, 1, 407), (407, .iload_n 3, 1, 408), (408, .iconst 1, 1, 409), (409, .iadd, 1, 410), (410, .iaload, 1, 411), (411, .invokevirtual 43, 3, 414), (414, .if_icmp .eq 965, 3, 417), (417, .iconst 0, 1, 418), (418, .ireturn, 1, 419), (419, .aload_n 1, 1, 420)], [(420, .aload_n 0, 1, 421), (421, .iload_n 3, 1, 422), (422, .iconst 1, 1, 423), (423, .iadd, 1, 424), (424, .iaload, 1, 425), (425, .invokevirtual 44, 3, 428), (428, .aload_n 2, 1, 429), (429, .aload_n 0, 1, 430), (430, .iload_n 3, 1, 431), (431, .iconst 1, 1, 432), (432, .iadd, 1, 433), (433, .iaload, 1, 434), (434, .invokevirtual 47, 3, 437), (437, .if_icmp .eq 942, 3, 440), (440, .iconst 0, 1, 441), (441, .ireturn, 1, 442), (442, .aload_n 1, 1, 443), (443, .aload_n 0, 1, 444), (444, .iload_n 3, 1, 445), (445, .iconst 1, 1, 446), (446, .iadd, 1, 447), (447, .iaload, 1, 448), (448, .aload_n 0, 1, 449), (449, .iload_n 3, 1, 450), (450, .iconst 2, 1, 451), (451, .iadd, 1, 452), (452, .iaload, 1, 453), (453, .aload_n 0, 1, 454), (454, .iload_n 3, 1, 455), (455, .iconst 3, 1, 456), (456, .iadd, 1, 457), (457, .iaload, 1, 458)], [(458, .invokevirtual 48, 3, 461), (461, .aload_n 2, 1, 462), (462, .aload_n 0, 1, 463), (463, .iload_n 3, 1, 464), (464, .iconst 1, 1, 465), (465, .iadd, 1, 466), (466, .iaload, 1, 467), (467, .aload_n 0, 1, 468), (468, .iload_n 3, 1, 469), (469, .iconst 2, 1, 470), (470, .iadd, 1, 471), (471, .iaload, 1, 472), (472, .aload_n 0, 1, 473), (473, .iload_n 3, 1, 474), (474, .iconst 3, 1, 475), (475, .iadd, 1, 476), (476, .iaload, 1, 477), (477, .invokevirtual 51, 3, 480), (480, .if_icmp .eq 899, 3, 483), (483, .iconst 0, 1, 484), (484, .ireturn, 1, 485), (485, .aload_n 1, 1, 486), (486, .aload_n 0, 1, 487), (487, .iload_n 3, 1, 488), (488, .iconst 1, 1, 489), (489, .iadd, 1, 490), (490, .iaload, 1, 491), (491, .invokevirtual 52, 3, 494), (494, .aload_n 2, 1, 495), (495, .aload_n 0, 1, 496), (496, .iload_n 3, 1, 497), (497, .iconst 1, 1, 498)], [(498, .iadd, 1, 499), (499, .iaload, 1, 500), (500, .invokevirtual 55, 3, 503), (503, .if_icmp .eq 876, 3, 506), (506, .iconst 0, 1, 507), (507, .ireturn, 1, 508), (508, .aload_n 1, 1, 509), (509, .aload_n 0, 1, 510), (510, .iload_n 3, 1, 511), (511, .iconst 1, 1, 512), (512, .iadd, 1, 513), (513, .iaload, 1, 514), (514, .invokevirtual 56, 3, 517), (517, .aload_n 2, 1, 518), (518, .aload_n 0, 1, 519), (519, .iload_n 3, 1, 520), (520, .iconst 1, 1, 521), (521, .iadd, 1, 522), (522, .iaload, 1, 523), (523, .invokevirtual 59, 3, 526), (526, .if_icmp .eq 853, 3, 529), (529, .iconst 0, 1, 530), (530, .ireturn, 1, 531), (531, .aload_n 1, 1, 532), (532, .aload_n 0, 1, 533), (533, .iload_n 3, 1, 534), (534, .iconst 1, 1, 535), (535, .iadd, 1, 536), (536, .iaload, 1, 537), (537, .aload_n 0, 1, 538), (538, .iload_n 3, 1, 539), (539, .iconst 2, 1, 540)], [(540, .iadd, 1, 541), (541, .iaload, 1, 542), (542, .invokevirtual 60, 3, 545), (545, .aload_n 2, 1, 546), (546, .aload_n 0, 1, 547), (547, .iload_n 3, 1, 548), (548, .iconst 1, 1, 549), (549, .iadd, 1, 550), (550, .iaload, 1, 551), (551, .aload_n 0, 1, 552), (552, .iload_n 3, 1, 553), (553, .iconst 2, 1, 554), (554, .iadd, 1, 555), (555, .iaload, 1, 556), (556, .invokevirtual 63, 3, 559), (559, .if_icmp .eq 820, 3, 562), (562, .iconst 0, 1, 563), (563, .ireturn, 1, 564), (564, .aload_n 1, 1, 565), (565, .aload_n 0, 1, 566), (566, .iload_n 3, 1, 567), (567, .iconst 1, 1, 568), (568, .iadd, 1, 569), (569, .iaload, 1, 570), (570, .aload_n 0, 1, 571), (571, .iload_n 3, 1, 572), (572, .iconst 2, 1, 573), (573, .iadd, 1, 574), (574, .iaload, 1, 575), (575, .invokevirtual 64, 3, 578), (578, .aload_n 2, 1, 579), (579, .aload_n 0, 1, 580)], [(580, .iload_n 3, 1, 581), (581, .iconst 1, 1, 582), (582, .iadd, 1, 583), (583, .iaload, 1, 584), (584, .aload_n 0, 1, 585), (585, .iload_n 3, 1, 586), (586, .iconst 2, 1, 587), (587, .iadd, 1, 588), (588, .iaload, 1, 589), (589, .invokevirtual 67, 3, 592), (592, .if_icmp .eq 787, 3, 595), (595, .iconst 0, 1, 596), (596, .ireturn, 1, 597), (597, .aload_n 1, 1, 598), (598, .aload_n 0, 1, 599), (599, .iload_n 3, 1, 600), (600, .iconst 1, 1, 601), (601, .iadd, 1, 602), (602, .iaload, 1, 603), (603, .aload_n 0, 1, 604), (604, .iload_n 3, 1, 605), (605, .iconst 2, 1, 606), (606, .iadd, 1, 607), (607, .iaload, 1, 608), (608, .invokevirtual 68, 3, 611), (611, .aload_n 2, 1, 612), (612, .aload_n 0, 1, 613), (613, .iload_n 3, 1, 614), (614, .iconst 1, 1, 615), (615, .iadd, 1, 616), (616, .iaload, 1, 617), (617, .aload_n 0, 1, 618)], [(618, .iload_n 3, 1, 619), (619, .iconst 2, 1, 620), (620, .iadd, 1, 621), (621, .iaload, 1, 622), (622, .invokevirtual 71, 3, 625), (625, .if_icmp .eq 754, 3, 628), (628, .iconst 0, 1, 629), (629, .ireturn, 1, 630), (630, .aload_n 1, 1, 631), (631, .aload_n 0, 1, 632), (632, .iload_n 3, 1, 633), (633, .iconst 1, 1, 634), (634, .iadd, 1, 635), (635, .iaload, 1, 636), (636, .aload_n 0, 1, 637), (637, .iload_n 3, 1, 638), (638, .iconst 2, 1, 639), (639, .iadd, 1, 640), (640, .iaload, 1, 641), (641, .invokevirtual 72, 3, 644), (644, .aload_n 2, 1, 645), (645, .aload_n 0, 1, 646), (646, .iload_n 3, 1, 647), (647, .iconst 1, 1, 648), (648, .iadd, 1, 649), (649, .iaload, 1, 650), (650, .aload_n 0, 1, 651), (651, .iload_n 3, 1, 652), (652, .iconst 2, 1, 653), (653, .iadd, 1, 654), (654, .iaload, 1, 655), (655, .invokevirtual 75, 3, 658)], [(658, .if_icmp .eq 721, 3, 661), (661, .iconst 0, 1, 662), (662, .ireturn, 1, 663), (663, .aload_n 1, 1, 664), (664, .aload_n 0, 1, 665), (665, .iload_n 3, 1, 666), (666, .iconst 1, 1, 667), (667, .iadd, 1, 668), (668, .iaload, 1, 669), (669, .invokevirtual 76, 3, 672), (672, .aload_n 2, 1, 673), (673, .aload_n 0, 1, 674), (674, .iload_n 3, 1, 675), (675, .iconst 1, 1, 676), (676, .iadd, 1, 677), (677, .iaload, 1, 678), (678, .invokevirtual 79, 3, 681), (681, .if_icmp .eq 698, 3, 684), (684, .iconst 0, 1, 685), (685, .ireturn, 1, 686), (686, .aload_n 1, 1, 687), (687, .aload_n 0, 1, 688), (688, .iload_n 3, 1, 689), (689, .iconst 1, 1, 690), (690, .iadd, 1, 691), (691, .iaload, 1, 692), (692, .aload_n 0, 1, 693), (693, .iload_n 3, 1, 694), (694, .iconst 2, 1, 695), (695, .iadd, 1, 696), (696, .iaload, 1, 697), (697, .invokevirtual 80, 3, 700)], [(700, .aload_n 2, 1, 701), (701, .aload_n 0, 1, 702), (702, .iload_n 3, 1, 703), (703, .iconst 1, 1, 704), (704, .iadd, 1, 705), (705, .iaload, 1, 706), (706, .aload_n 0, 1, 707), (707, .iload_n 3, 1, 708), (708, .iconst 2, 1, 709), (709, .iadd, 1, 710), (710, .iaload, 1, 711), (711, .invokevirtual 83, 3, 714), (714, .if_icmp .eq 665, 3, 717), (717, .iconst 0, 1, 718), (718, .ireturn, 1, 719), (719, .aload_n 1, 1, 720), (720, .aload_n 0, 1, 721), (721, .iload_n 3, 1, 722), (722, .iconst 1, 1, 723), (723, .iadd, 1, 724), (724, .iaload, 1, 725), (725, .aload_n 0, 1, 726), (726, .iload_n 3, 1, 727), (727, .iconst 2, 1, 728), (728, .iadd, 1, 729), (729, .iaload, 1, 730), (730, .invokevirtual 84, 3, 733), (733, .aload_n 2, 1, 734), (734, .aload_n 0, 1, 735), (735, .iload_n 3, 1, 736), (736, .iconst 1, 1, 737), (737, .iadd, 1, 738)], [(738, .iaload, 1, 739), (739, .aload_n 0, 1, 740), (740, .iload_n 3, 1, 741), (741, .iconst 2, 1, 742), (742, .iadd, 1, 743), (743, .iaload, 1, 744), (744, .invokevirtual 87, 3, 747), (747, .if_icmp .eq 632, 3, 750), (750, .iconst 0, 1, 751), (751, .ireturn, 1, 752), (752, .aload_n 1, 1, 753), (753, .aload_n 0, 1, 754), (754, .iload_n 3, 1, 755), (755, .iconst 1, 1, 756), (756, .iadd, 1, 757), (757, .iaload, 1, 758), (758, .aload_n 0, 1, 759), (759, .iload_n 3, 1, 760), (760, .iconst 2, 1, 761), (761, .iadd, 1, 762), (762, .iaload, 1, 763), (763, .invokevirtual 88, 3, 766), (766, .aload_n 2, 1, 767), (767, .aload_n 0, 1, 768), (768, .iload_n 3, 1, 769), (769, .iconst 1, 1, 770), (770, .iadd, 1, 771), (771, .iaload, 1, 772), (772, .aload_n 0, 1, 773), (773, .iload_n 3, 1, 774), (774, .iconst 2, 1, 775), (775, .iadd, 1, 776)], [(776, .iaload, 1, 777), (777, .invokevirtual 91, 3, 780), (780, .if_icmp .eq 599, 3, 783), (783, .iconst 0, 1, 784), (784, .ireturn, 1, 785), (785, .aload_n 1, 1, 786), (786, .aload_n 0, 1, 787), (787, .iload_n 3, 1, 788), (788, .iconst 1, 1, 789), (789, .iadd, 1, 790), (790, .iaload, 1, 791), (791, .invokevirtual 92, 3, 794), (794, .aload_n 2, 1, 795), (795, .aload_n 0, 1, 796), (796, .iload_n 3, 1, 797), (797, .iconst 1, 1, 798), (798, .iadd, 1, 799), (799, .iaload, 1, 800), (800, .invokevirtual 95, 3, 803), (803, .if_icmp .eq 576, 3, 806), (806, .iconst 0, 1, 807), (807, .ireturn, 1, 808), (808, .aload_n 1, 1, 809), (809, .aload_n 0, 1, 810), (810, .iload_n 3, 1, 811), (811, .iconst 1, 1, 812), (812, .iadd, 1, 813), (813, .iaload, 1, 814), (814, .aload_n 0, 1, 815), (815, .iload_n 3, 1, 816), (816, .iconst 2, 1, 817), (817, .iadd, 1, 818)], [(818, .iaload, 1, 819), (819, .invokevirtual 96, 3, 822), (822, .aload_n 2, 1, 823), (823, .aload_n 0, 1, 824), (824, .iload_n 3, 1, 825), (825, .iconst 1, 1, 826), (826, .iadd, 1, 827), (827, .iaload, 1, 828), (828, .aload_n 0, 1, 829), (829, .iload_n 3, 1, 830), (830, .iconst 2, 1, 831), (831, .iadd, 1, 832), (832, .iaload, 1, 833), (833, .invokevirtual 99, 3, 836), (836, .if_icmp .eq 543, 3, 839), (839, .iconst 0, 1, 840), (840, .ireturn, 1, 841), (841, .aload_n 1, 1, 842), (842, .aload_n 0, 1, 843), (843, .iload_n 3, 1, 844), (844, .iconst 1, 1, 845), (845, .iadd, 1, 846), (846, .iaload, 1, 847), (847, .aload_n 0, 1, 848), (848, .iload_n 3, 1, 849), (849, .iconst 2, 1, 850), (850, .iadd, 1, 851), (851, .iaload, 1, 852), (852, .invokevirtual 100, 3, 855), (855, .aload_n 2, 1, 856), (856, .aload_n 0, 1, 857), (857, .iload_n 3, 1, 858)], [(858, .iconst 1, 1, 859), (859, .iadd, 1, 860), (860, .iaload, 1, 861), (861, .aload_n 0, 1, 862), (862, .iload_n 3, 1, 863), (863, .iconst 2, 1, 864), (864, .iadd, 1, 865), (865, .iaload, 1, 866), (866, .invokevirtual 103, 3, 869), (869, .if_icmp .eq 510, 3, 872), (872, .iconst 0, 1, 873), (873, .ireturn, 1, 874), (874, .aload_n 1, 1, 875), (875, .aload_n 0, 1, 876), (876, .iload_n 3, 1, 877), (877, .iconst 1, 1, 878), (878, .iadd, 1, 879), (879, .iaload, 1, 880), (880, .invokevirtual 104, 3, 883), (883, .aload_n 2, 1, 884), (884, .aload_n 0, 1, 885), (885, .iload_n 3, 1, 886), (886, .iconst 1, 1, 887), (887, .iadd, 1, 888), (888, .iaload, 1, 889), (889, .invokevirtual 107, 3, 892), (892, .if_icmp .eq 487, 3, 895), (895, .iconst 0, 1, 896), (896, .ireturn, 1, 897), (897, .aload_n 1, 1, 898), (898, .aload_n 0, 1, 899), (899, .iload_n 3, 1, 900)], [(900, .iconst 1, 1, 901), (901, .iadd, 1, 902), (902, .iaload, 1, 903), (903, .aload_n 0, 1, 904), (904, .iload_n 3, 1, 905), (905, .iconst 2, 1, 906), (906, .iadd, 1, 907), (907, .iaload, 1, 908), (908, .aload_n 0, 1, 909), (909, .iload_n 3, 1, 910), (910, .iconst 3, 1, 911), (911, .iadd, 1, 912), (912, .iaload, 1, 913), (913, .aload_n 0, 1, 914), (914, .iload_n 3, 1, 915), (915, .iconst 4, 1, 916), (916, .iadd, 1, 917), (917, .iaload, 1, 918), (918, .invokevirtual 108, 3, 921), (921, .aload_n 2, 1, 922), (922, .aload_n 0, 1, 923), (923, .iload_n 3, 1, 924), (924, .iconst 1, 1, 925), (925, .iadd, 1, 926), (926, .iaload, 1, 927), (927, .aload_n 0, 1, 928), (928, .iload_n 3, 1, 929), (929, .iconst 2, 1, 930), (930, .iadd, 1, 931), (931, .iaload, 1, 932), (932, .aload_n 0, 1, 933), (933, .iload_n 3, 1, 934)], [(934, .iconst 3, 1, 935), (935, .iadd, 1, 936), (936, .iaload, 1, 937), (937, .aload_n 0, 1, 938), (938, .iload_n 3, 1, 939), (939, .iconst 4, 1, 940), (940, .iadd, 1, 941), (941, .iaload, 1, 942), (942, .invokevirtual 112, 3, 945), (945, .lcmp, 1, 946), (946, .ifCond .eq 433, 3, 949), (949, .iconst 0, 1, 950), (950, .ireturn, 1, 951), (951, .aload_n 1, 1, 952), (952, .aload_n 0, 1, 953), (953, .iload_n 3, 1, 954), (954, .iconst 1, 1, 955), (955, .iadd, 1, 956), (956, .iaload, 1, 957), (957, .invokevirtual 113, 3, 960), (960, .aload_n 2, 1, 961), (961, .aload_n 0, 1, 962), (962, .iload_n 3, 1, 963), (963, .iconst 1, 1, 964), (964, .iadd, 1, 965), (965, .iaload, 1, 966), (966, .invokevirtual 116, 3, 969), (969, .if_icmp .eq 410, 3, 972), (972, .iconst 0, 1, 973), (973, .ireturn, 1, 974), (974, .aload_n 1, 1, 975), (975, .aload_n 0, 1, 976)], [(976, .iload_n 3, 1, 977), (977, .iconst 1, 1, 978), (978, .iadd, 1, 979), (979, .iaload, 1, 980), (980, .aload_n 0, 1, 981), (981, .iload_n 3, 1, 982), (982, .iconst 2, 1, 983), (983, .iadd, 1, 984), (984, .iaload, 1, 985), (985, .invokevirtual 117, 3, 988), (988, .aload_n 2, 1, 989), (989, .aload_n 0, 1, 990), (990, .iload_n 3, 1, 991), (991, .iconst 1, 1, 992), (992, .iadd, 1, 993), (993, .iaload, 1, 994), (994, .aload_n 0, 1, 995), (995, .iload_n 3, 1, 996), (996, .iconst 2, 1, 997), (997, .iadd, 1, 998), (998, .iaload, 1, 999), (999, .invokevirtual 120, 3, 1002), (1002, .if_icmp .eq 377, 3, 1005), (1005, .iconst 0, 1, 1006), (1006, .ireturn, 1, 1007), (1007, .aload_n 1, 1, 1008), (1008, .invokevirtual 121, 3, 1011), (1011, .aload_n 2, 1, 1012), (1012, .invokevirtual 125, 3, 1015), (1015, .if_icmp .eq 364, 3, 1018), (1018, .iconst 0, 1, 1019), (1019, .ireturn, 1, 1020)], [(1020, .aload_n 1, 1, 1021), (1021, .invokevirtual 126, 3, 1024), (1024, .aload_n 2, 1, 1025), (1025, .invokevirtual 129, 3, 1028), (1028, .if_icmp .eq 351, 3, 1031), (1031, .iconst 0, 1, 1032), (1032, .ireturn, 1, 1033), (1033, .aload_n 1, 1, 1034), (1034, .aload_n 0, 1, 1035), (1035, .iload_n 3, 1, 1036), (1036, .iconst 1, 1, 1037), (1037, .iadd, 1, 1038), (1038, .iaload, 1, 1039), (1039, .aload_n 0, 1, 1040), (1040, .iload_n 3, 1, 1041), (1041, .iconst 2, 1, 1042), (1042, .iadd, 1, 1043), (1043, .iaload, 1, 1044), (1044, .invokevirtual 130, 3, 1047), (1047, .aload_n 2, 1, 1048), (1048, .aload_n 0, 1, 1049), (1049, .iload_n 3, 1, 1050), (1050, .iconst 1, 1, 1051), (1051, .iadd, 1, 1052), (1052, .iaload, 1, 1053), (1053, .aload_n 0, 1, 1054), (1054, .iload_n 3, 1, 1055), (1055, .iconst 2, 1, 1056), (1056, .iadd, 1, 1057), (1057, .iaload, 1, 1058), (1058, .invokevirtual 133, 3, 1061), (1061, .if_icmp .eq 318, 3, 1064)], [(1064, .iconst 0, 1, 1065), (1065, .ireturn, 1, 1066), (1066, .aload_n 1, 1, 1067), (1067, .aload_n 0, 1, 1068), (1068, .iload_n 3, 1, 1069), (1069, .iconst 1, 1, 1070), (1070, .iadd, 1, 1071), (1071, .iaload, 1, 1072), (1072, .aload_n 0, 1, 1073), (1073, .iload_n 3, 1, 1074), (1074, .iconst 2, 1, 1075), (1075, .iadd, 1, 1076), (1076, .iaload, 1, 1077), (1077, .invokevirtual 134, 3, 1080), (1080, .aload_n 2, 1, 1081), (1081, .aload_n 0, 1, 1082), (1082, .iload_n 3, 1, 1083), (1083, .iconst 1, 1, 1084), (1084, .iadd, 1, 1085), (1085, .iaload, 1, 1086), (1086, .aload_n 0, 1, 1087), (1087, .iload_n 3, 1, 1088), (1088, .iconst 2, 1, 1089), (1089, .iadd, 1, 1090), (1090, .iaload, 1, 1091), (1091, .invokevirtual 137, 3, 1094), (1094, .if_icmp .eq 285, 3, 1097), (1097, .iconst 0, 1, 1098), (1098, .ireturn, 1, 1099), (1099, .aload_n 1, 1, 1100), (1100, .aload_n 0, 1, 1101), (1101, .iload_n 3, 1, 1102)], [(1102, .iconst 1, 1, 1103), (1103, .iadd, 1, 1104), (1104, .iaload, 1, 1105), (1105, .aload_n 0, 1, 1106), (1106, .iload_n 3, 1, 1107), (1107, .iconst 2, 1, 1108), (1108, .iadd, 1, 1109), (1109, .iaload, 1, 1110), (1110, .aload_n 0, 1, 1111), (1111, .iload_n 3, 1, 1112), (1112, .iconst 3, 1, 1113), (1113, .iadd, 1, 1114), (1114, .iaload, 1, 1115), (1115, .invokevirtual 138, 3, 1118), (1118, .aload_n 2, 1, 1119), (1119, .aload_n 0, 1, 1120), (1120, .iload_n 3, 1, 1121), (1121, .iconst 1, 1, 1122), (1122, .iadd, 1, 1123), (1123, .iaload, 1, 1124), (1124, .aload_n 0, 1, 1125), (1125, .iload_n 3, 1, 1126), (1126, .iconst 2, 1, 1127), (1127, .iadd, 1, 1128), (1128, .iaload, 1, 1129), (1129, .aload_n 0, 1, 1130), (1130, .iload_n 3, 1, 1131), (1131, .iconst 3, 1, 1132), (1132, .iadd, 1, 1133), (1133, .iaload, 1, 1134), (1134, .invokevirtual 141, 3, 1137), (1137, .if_icmp .eq 242, 3, 1140)], [(1140, .iconst 0, 1, 1141), (1141, .ireturn, 1, 1142), (1142, .aload_n 1, 1, 1143), (1143, .aload_n 0, 1, 1144), (1144, .iload_n 3, 1, 1145), (1145, .iconst 1, 1, 1146), (1146, .iadd, 1, 1147), (1147, .iaload, 1, 1148), (1148, .aload_n 0, 1, 1149), (1149, .iload_n 3, 1, 1150), (1150, .iconst 2, 1, 1151), (1151, .iadd, 1, 1152), (1152, .iaload, 1, 1153), (1153, .aload_n 0, 1, 1154), (1154, .iload_n 3, 1, 1155), (1155, .iconst 3, 1, 1156), (1156, .iadd, 1, 1157), (1157, .iaload, 1, 1158), (1158, .invokevirtual 142, 3, 1161), (1161, .aload_n 2, 1, 1162), (1162, .aload_n 0, 1, 1163), (1163, .iload_n 3, 1, 1164), (1164, .iconst 1, 1, 1165), (1165, .iadd, 1, 1166), (1166, .iaload, 1, 1167), (1167, .aload_n 0, 1, 1168), (1168, .iload_n 3, 1, 1169), (1169, .iconst 2, 1, 1170), (1170, .iadd, 1, 1171), (1171, .iaload, 1, 1172), (1172, .aload_n 0, 1, 1173), (1173, .iload_n 3, 1, 1174)], [(1174, .iconst 3, 1, 1175), (1175, .iadd, 1, 1176), (1176, .iaload, 1, 1177), (1177, .invokevirtual 145, 3, 1180), (1180, .if_icmp .eq 199, 3, 1183), (1183, .iconst 0, 1, 1184), (1184, .ireturn, 1, 1185), (1185, .aload_n 1, 1, 1186), (1186, .aload_n 0, 1, 1187), (1187, .iload_n 3, 1, 1188), (1188, .iconst 1, 1, 1189), (1189, .iadd, 1, 1190), (1190, .iaload, 1, 1191), (1191, .aload_n 0, 1, 1192), (1192, .iload_n 3, 1, 1193), (1193, .iconst 2, 1, 1194), (1194, .iadd, 1, 1195), (1195, .iaload, 1, 1196), (1196, .aload_n 0, 1, 1197), (1197, .iload_n 3, 1, 1198), (1198, .iconst 3, 1, 1199), (1199, .iadd, 1, 1200), (1200, .iaload, 1, 1201), (1201, .aload_n 0, 1, 1202), (1202, .iload_n 3, 1, 1203), (1203, .iconst 4, 1, 1204), (1204, .iadd, 1, 1205), (1205, .iaload, 1, 1206), (1206, .aload_n 0, 1, 1207), (1207, .iload_n 3, 1, 1208), (1208, .iconst 5, 1, 1209), (1209, .iadd, 1, 1210)], [(1210, .iaload, 1, 1211), (1211, .invokevirtual 146, 3, 1214), (1214, .aload_n 2, 1, 1215), (1215, .aload_n 0, 1, 1216), (1216, .iload_n 3, 1, 1217), (1217, .iconst 1, 1, 1218), (1218, .iadd, 1, 1219), (1219, .iaload, 1, 1220), (1220, .aload_n 0, 1, 1221), (1221, .iload_n 3, 1, 1222), (1222, .iconst 2, 1, 1223), (1223, .iadd, 1, 1224), (1224, .iaload, 1, 1225), (1225, .aload_n 0, 1, 1226), (1226, .iload_n 3, 1, 1227), (1227, .iconst 3, 1, 1228), (1228, .iadd, 1, 1229), (1229, .iaload, 1, 1230), (1230, .aload_n 0, 1, 1231), (1231, .iload_n 3, 1, 1232), (1232, .iconst 4, 1, 1233), (1233, .iadd, 1, 1234), (1234, .iaload, 1, 1235), (1235, .aload_n 0, 1, 1236), (1236, .iload_n 3, 1, 1237), (1237, .iconst 5, 1, 1238), (1238, .iadd, 1, 1239), (1239, .iaload, 1, 1240), (1240, .invokevirtual 150, 3, 1243), (1243, .if_icmp .eq 136, 3, 1246), (1246, .iconst 0, 1, 1247), (1247, .ireturn, 1, 1248)], [(1248, .aload_n 1, 1, 1249), (1249, .aload_n 0, 1, 1250), (1250, .iload_n 3, 1, 1251), (1251, .iconst 1, 1, 1252), (1252, .iadd, 1, 1253), (1253, .iaload, 1, 1254), (1254, .invokevirtual 151, 3, 1257), (1257, .aload_n 2, 1, 1258), (1258, .aload_n 0, 1, 1259), (1259, .iload_n 3, 1, 1260), (1260, .iconst 1, 1, 1261), (1261, .iadd, 1, 1262), (1262, .iaload, 1, 1263), (1263, .invokevirtual 154, 3, 1266), (1266, .if_icmp .eq 113, 3, 1269), (1269, .iconst 0, 1, 1270), (1270, .ireturn, 1, 1271), (1271, .aload_n 1, 1, 1272), (1272, .aload_n 0, 1, 1273), (1273, .iload_n 3, 1, 1274), (1274, .iconst 1, 1, 1275), (1275, .iadd, 1, 1276), (1276, .iaload, 1, 1277), (1277, .invokevirtual 155, 3, 1280), (1280, .aload_n 2, 1, 1281), (1281, .aload_n 0, 1, 1282), (1282, .iload_n 3, 1, 1283), (1283, .iconst 1, 1, 1284), (1284, .iadd, 1, 1285), (1285, .iaload, 1, 1286), (1286, .invokevirtual 158, 3, 1289), (1289, .if_icmp .eq 90, 3, 1292)], [(1292, .iconst 0, 1, 1293), (1293, .ireturn, 1, 1294), (1294, .aload_n 1, 1, 1295), (1295, .invokevirtual 159, 3, 1298), (1298, .aload_n 2, 1, 1299), (1299, .invokevirtual 162, 3, 1302), (1302, .if_icmp .eq 77, 3, 1305), (1305, .iconst 0, 1, 1306), (1306, .ireturn, 1, 1307), (1307, .aload_n 1, 1, 1308), (1308, .invokevirtual 163, 3, 1311), (1311, .aload_n 2, 1, 1312), (1312, .invokevirtual 166, 3, 1315), (1315, .if_icmp .eq 64, 3, 1318), (1318, .iconst 0, 1, 1319), (1319, .ireturn, 1, 1320), (1320, .aload_n 1, 1, 1321), (1321, .invokevirtual 167, 3, 1324), (1324, .aload_n 2, 1, 1325), (1325, .invokevirtual 170, 3, 1328), (1328, .if_icmp .eq 51, 3, 1331), (1331, .iconst 0, 1, 1332), (1332, .ireturn, 1, 1333), (1333, .aload_n 1, 1, 1334), (1334, .aload_n 0, 1, 1335), (1335, .iload_n 3, 1, 1336), (1336, .iconst 1, 1, 1337), (1337, .iadd, 1, 1338), (1338, .iaload, 1, 1339), (1339, .invokevirtual 171, 3, 1342), (1342, .aload_n 2, 1, 1343), (1343, .aload_n 0, 1, 1344)], [(1344, .iload_n 3, 1, 1345), (1345, .iconst 1, 1, 1346), (1346, .iadd, 1, 1347), (1347, .iaload, 1, 1348), (1348, .invokevirtual 174, 3, 1351), (1351, .if_icmp .eq 28, 3, 1354), (1354, .iconst 0, 1, 1355), (1355, .ireturn, 1, 1356), (1356, .aload_n 1, 1, 1357), (1357, .aload_n 0, 1, 1358), (1358, .iload_n 3, 1, 1359), (1359, .iconst 1, 1, 1360), (1360, .iadd, 1, 1361), (1361, .iaload, 1, 1362), (1362, .invokevirtual 175, 3, 1365), (1365, .aload_n 2, 1, 1366), (1366, .aload_n 0, 1, 1367), (1367, .iload_n 3, 1, 1368), (1368, .iconst 1, 1, 1369), (1369, .iadd, 1, 1370), (1370, .iaload, 1, 1371), (1371, .invokevirtual 178, 3, 1374), (1374, .if_icmp .eq 5, 3, 1377), (1377, .iconst 0, 1, 1378), (1378, .ireturn, 1, 1379), (1379, .iinc 3 6, 3, 1382), (1382, .goto (-1364), 3, 1385), (1385, .iconst 1, 1, 1386), (1386, .ireturn, 1, 1387)]])
theorem ocL_law_0 : ((mL_law.2.2.2.2.2.2.getD 0 []).all fun e => decide (decode mL_law.2.1 e.1 = .ok (e.2.1, e.2.2.1)) && decide (e.2.2.2 = e.1 + e.2.2.1)) = true := by decide +kernel
theorem ocL_law_1 : ((mL_law.2.2.2.2.2.2.getD 1 []).all fun e => decide (decode mL_law.2.1 e.1 = .ok (e.2.1, e.2.2.1)) && decide (e.2.2.2 = e.1 + e.2.2.1)) = true := by decide +kernel
theorem ocL_law_2 : ((mL_law.2.2.2.2.2.2.getD 2 []).all fun e => decide (decode mL_law.2.1 e.1 = .ok (e.2.1, e.2.2.1)) && decide (e.2.2.2 = e.1 + e.2.2.1)) = true := by decide +kernel
theorem ocL_law_3 : ((mL_law.2.2.2.2.2.2.getD 3 []).all fun e => decide (decode mL_law.2.1 e.1 = .ok (e.2.1, e.2.2.1)) && decide (e.2.2.2 = e.1 + e.2.2.1)) = true := by decide +kernel
theorem ocL_law_4 : ((mL_law.2.2.2.2.2.2.getD 4 []).all fun e => decide (decode mL_law.2.1 e.1 = .ok (e.2.1, e.2.2.1)) && decide (e.2.2.2 = e.1 + e.2.2.1)) = true := by decide +kernel
theorem ocL_law_5 : ((mL_law.2.2.2.2.2.2.getD 5 []).all fun e => decide (decode mL_law.2.1 e.1 = .ok (e.2.1, e.2.2.1)) && decide (e.2.2.2 = e.1 + e.2.2.1)) = true := by decide +kernel
theorem ocL_law_6 : ((mL_law.2.2.2.2.2.2.getD 6 []).all fun e => decide (decode mL_law.2.1 e.1 = .ok (e.2.1, e.2.2.1)) && decide (e.2.2.2 = e.1 + e.2.2.1)) = true := by decide +kernel
theorem ocL_law_7 : ((mL_law.2.2.2.2.2.2.getD 7 []).all fun e => decide (decode mL_law.2.1 e.1 = .ok (e.2.1, e.2.2.1)) && decide (e.2.2.2 = e.1 + e.2.2.1)) = true := by decide +kernel
theorem ocL_law_8 : ((mL_law.2.2.2.2.2.2.getD 8 []).all fun e => decide (decode mL_law.2.1 e.1 = .ok (e.2.1, e.2.2.1)) && decide (e.2.2.2 = e.1 + e.2.2.1)) = true := by decide +kernel
theorem ocL_law_9 : ((mL_law.2.2.2.2.2.2.getD 9 []).all fun e => decide (decode mL_law.2.1 e.1 = .ok (e.2.1, e.2.2.1)) && decide (e.2.2.2 = e.1 + e.2.2.1)) = true := by decide +kernel
theorem ocL_law_10 : ((mL_law.2.2.2.2.2.2.getD 10 []).all fun e => decide (decode mL_law.2.1 e.1 = .ok (e.2.1, e.2.2.1)) && decide (e.2.2.2 = e.1 + e.2.2.1)) = true := by decide +kernel
theorem ocL_law_11 : ((mL_law.2.2.2.2.2.2.getD 11 []).all fun e => decide (decode mL_law.2.1 e.1 = .ok (e.2.1, e.2.2.1)) && decide (e.2.2.2 = e.1 + e.2.2.1)) = true := by decide +kernel
theorem ocL_law_12 : ((mL_law.2.2.2.2.2.2.getD 12 []).all fun e => decide (decode mL_law.2.1 e.1 = .ok (e.2.1, e.2.2.1)) && decide (e.2.2.2 = e.1 + e.2.2.1)) = true := by decide +kernel
theorem ocL_law_13 : ((mL_law.2.2.2.2.2.2.getD 13 []).all fun e => decide (decode mL_law.2.1 e.1 = .ok (e.2.1, e.2.2.1)) && decide (e.2.2.2 = e.1 + e.2.2.1)) = true := by decide +kernel
theorem ocL_law_14 : ((mL_law.2.2.2.2.2.2.getD 14 []).all fun e => decide (decode mL_law.2.1 e.1 = .ok (e.2.1, e.2.2.1)) && decide (e.2.2.2 = e.1 + e.2.2.1)) = true := by decide +kernel
theorem ocL_law_15 : ((mL_law.2.2.2.2.2.2.getD 15 []).all fun e => decide (decode mL_law.2.1 e.1 = .ok (e.2.1, e.2.2.1)) && decide (e.2.2.2 = e.1 + e.2.2.1)) = true := by decide +kernel
theorem ocL_law_16 : ((mL_law.2.2.2.2.2.2.getD 16 []).all fun e => decide (decode mL_law.2.1 e.1 = .ok (e.2.1, e.2.2.1)) && decide (e.2.2.2 = e.1 + e.2.2.1)) = true := by decide +kernel
theorem ocL_law_17 : ((mL_law.2.2.2.2.2.2.getD 17 []).all fun e => decide (decode mL_law.2.1 e.1 = .ok (e.2.1, e.2.2.1)) && decide (e.2.2.2 = e.1 + e.2.2.1)) = true := by decide +kernel
theorem ocL_law_18 : ((mL_law.2.2.2.2.2.2.getD 18 []).all fun e => decide (decode mL_law.2.1 e.1 = .ok (e.2.1, e.2.2.1)) && decide (e.2.2.2 = e.1 + e.2.2.1)) = true := by decide +kernel
theorem ocL_law_19 : ((mL_law.2.2.2.2.2.2.getD 19 []).all fun e => decide (decode mL_law.2.1 e.1 = .ok (e.2.1, e.2.2.1)) && decide (e.2.2.2 = e.1 + e.2.2.1)) = true := by decide +kernel
theorem ocL_law_20 : ((mL_law.2.2.2.2.2.2.getD 20 []).all fun e => decide (decode mL_law.2.1 e.1 = .ok (e.2.1, e.2.2.1)) && decide (e.2.2.2 = e.1 + e.2.2.1)) = true := by decide +kernel
theorem ocL_law_21 : ((mL_law.2.2.2.2.2.2.getD 21 []).all fun e => decide (decode mL_law.2.1 e.1 = .ok (e.2.1, e.2.2.1)) && decide (e.2.2.2 = e.1 + e.2.2.1)) = true := by decide +kernel
theorem ocL_law_22 : ((mL_law.2.2.2.2.2.2.getD 22 []).all fun e => decide (decode mL_law.2.1 e.1 = .ok (e.2.1, e.2.2.1)) && decide (e.2.2.2 = e.1 + e.2.2.1)) = true := by decide +kernel
theorem ocL_law_23 : ((mL_law.2.2.2.2.2.2.getD 23 []).all fun e => decide (decode mL_law.2.1 e.1 = .ok (e.2.1, e.2.2.1)) && decide (e.2.2.2 = e.1 + e.2.2.1)) = true := by decide +kernel
theorem ocL_law_24 : ((mL_law.2.2.2.2.2.2.getD 24 []).all fun e => decide (decode mL_law.2.1 e.1 = .ok (e.2.1, e.2.2.1)) && decide (e.2.2.2 = e.1 + e.2.2.1)) = true := by decide +kernel
theorem ocL_law_25 : ((mL_law.2.2.2.2.2.2.getD 25 []).all fun e => decide (decode mL_law.2.1 e.1 = .ok (e.2.1, e.2.2.1)) && decide (e.2.2.2 = e.1 + e.2.2.1)) = true := by decide +kernel
theorem ocL_law_26 : ((mL_law.2.2.2.2.2.2.getD 26 []).all fun e => decide (decode mL_law.2.1 e.1 = .ok (e.2.1, e.2.2.1)) && decide (e.2.2.2 = e.1 + e.2.2.1)) = true := by decide +kernel
theorem ocL_law_27 : ((mL_law.2.2.2.2.2.2.getD 27 []).all fun e => decide (decode mL_law.2.1 e.1 = .ok (e.2.1, e.2.2.1)) && decide (e.2.2.2 = e.1 + e.2.2.1)) = true := by decide +kernel
theorem ocL_law_28 : ((mL_law.2.2.2.2.2.2.getD 28 []).all fun e => decide (decode mL_law.2.1 e.1 = .ok (e.2.1, e.2.2.1)) && decide (e.2.2.2 = e.1 + e.2.2.1)) = true := by decide +kernel
theorem ocL_law_29 : ((mL_law.2.2.2.2.2.2.getD 29 []).all fun e => decide (decode mL_law.2.1 e.1 = .ok (e.2.1, e.2.2.1)) && decide (e.2.2.2 = e.1 + e.2.2.1)) = true := by decide +kernel
theorem odL_law : ic_okd mL_law = true := List.all_eq_true.mpr (List.forall_mem_cons.mpr ⟨ocL_law_0, List.forall_mem_cons.mpr ⟨ocL_law_1, List.forall_mem_cons.mpr ⟨ocL_law_2, List.forall_mem_cons.mpr ⟨ocL_law_3, List.forall_mem_cons.mpr ⟨ocL_law_4, List.forall_mem_cons.mpr ⟨ocL_law_5, List.forall_mem_cons.mpr ⟨ocL_law_6, List.forall_mem_cons.mpr ⟨ocL_law_7, List.forall_mem_cons.mpr ⟨ocL_law_8, List.forall_mem_cons.mpr ⟨ocL_law_9, List.forall_mem_cons.mpr ⟨ocL_law_10, List.forall_mem_cons.mpr ⟨ocL_law_11, List.forall_mem_cons.mpr ⟨ocL_law_12, List.forall_mem_cons.mpr ⟨ocL_law_13, List.forall_mem_cons.mpr ⟨ocL_law_14, List.forall_mem_cons.mpr ⟨ocL_law_15, List.forall_mem_cons.mpr ⟨ocL_law_16, List.forall_mem_cons.mpr ⟨ocL_law_17, List.forall_mem_cons.mpr ⟨ocL_law_18, List.forall_mem_cons.mpr ⟨ocL_law_19, List.forall_mem_cons.mpr ⟨ocL_law_20, List.forall_mem_cons.mpr ⟨ocL_law_21, List.forall_mem_cons.mpr ⟨ocL_law_22, List.forall_mem_cons.mpr ⟨ocL_law_23, List.forall_mem_cons.mpr ⟨ocL_law_24, List.forall_mem_cons.mpr ⟨ocL_law_25, List.forall_mem_cons.mpr ⟨ocL_law_26, List.forall_mem_cons.mpr ⟨ocL_law_27, List.forall_mem_cons.mpr ⟨ocL_law_28, List.forall_mem_cons.mpr ⟨ocL_law_29, fun _ hh => absurd hh List.not_mem_nil⟩⟩⟩⟩⟩⟩⟩⟩⟩⟩⟩⟩⟩⟩⟩⟩⟩⟩⟩⟩⟩⟩⟩⟩⟩⟩⟩⟩⟩⟩)
end
section
theorem okX0_readItems : ic_okv mX0_readItems 0 := ⟨⟨odX0_readItems, by decide +kernel, ic_mg 663 (by decide +kernel) (by decide +kernel), ic_mg 6 (by decide +kernel) (by decide +kernel), by decide +kernel, by decide +kernel, by decide +kernel⟩, ic_mg 661 (by decide +kernel) (by decide +kernel), ic_mg 662 (by decide +kernel) (by decide +kernel)⟩
theorem okX0_readItem : ic_okv mX0_readItem 0 := ⟨⟨odX0_readItem, by decide +kernel, ic_mg 667 (by decide +kernel) (by decide +kernel), ic_mg 6 (by decide +kernel) (by decide +kernel), by decide +kernel, by decide +kernel, by decide +kernel⟩, ic_mg 665 (by decide +kernel) (by decide +kernel), ic_mg 666 (by decide +kernel) (by decide +kernel)⟩
theorem okX0_readThing : ic_okv mX0_readThing 1 := ⟨⟨odX0_readThing, by decide +kernel, ic_mg 680 (by decide +kernel) (by decide +kernel), ic_mg 6 (by decide +kernel) (by decide +kernel), by decide +kernel, by decide +kernel, by decide +kernel⟩, ic_mg 678 (by decide +kernel) (by decide +kernel), ic_mg 679 (by decide +kernel) (by decide +kernel)⟩
theorem okX0_readTrait : ic_okv mX0_readTrait 3 := ⟨⟨odX0_readTrait, by decide +kernel, ic_mg 685 (by decide +kernel) (by decide +kernel), ic_mg 6 (by decide +kernel) (by decide +kernel), by decide +kernel, by decide +kernel, by decide +kernel⟩, ic_mg 683 (by decide +kernel) (by decide +kernel), ic_mg 684 (by decide +kernel) (by decide +kernel)⟩
theorem okX0_readCart : ic_okv mX0_readCart 0 := ⟨⟨odX0_readCart, by decide +kernel, ic_mg 700 (by decide +kernel) (by decide +kernel), ic_mg 6 (by decide +kernel) (by decide +kernel), by decide +kernel, by decide +kernel, by decide +kernel⟩, ic_mg 698 (by decide +kernel) (by decide +kernel), ic_mg 699 (by decide +kernel) (by decide +kernel)⟩
theorem okX0_passWord : ic_okv mX0_passWord 1 := ⟨⟨odX0_passWord, by decide +kernel, ic_mg 689 (by decide +kernel) (by decide +kernel), ic_mg 6 (by decide +kernel) (by decide +kernel), by decide +kernel, by decide +kernel, by decide +kernel⟩, ic_mg 687 (by decide +kernel) (by decide +kernel), ic_mg 688 (by decide +kernel) (by decide +kernel)⟩
theorem okX0_passNumber : ic_okv mX0_passNumber 2 := ⟨⟨odX0_passNumber, by decide +kernel, ic_mg 695 (by decide +kernel) (by decide +kernel), ic_mg 6 (by decide +kernel) (by decide +kernel), by decide +kernel, by decide +kernel, by decide +kernel⟩, ic_mg 693 (by decide +kernel) (by decide +kernel), ic_mg 694 (by decide +kernel) (by decide +kernel)⟩
theorem okX1_isMissing : ic_okv mX1_isMissing 0 := ⟨⟨odX1_isMissing, by decide +kernel, ic_mg 498 (by decide +kernel) (by decide +kernel), ic_mg 7 (by decide +kernel) (by decide +kernel), by decide +kernel, by decide +kernel, by decide +kernel⟩, ic_mg 496 (by decide +kernel) (by decide +kernel), ic_mg 497 (by decide +kernel) (by decide +kernel)⟩
theorem okX1_renew : ic_okv mX1_renew 2 := ⟨⟨odX1_renew, by decide +kernel, ic_mg 739 (by decide +kernel) (by decide +kernel), ic_mg 7 (by decide +kernel) (by decide +kernel), by decide +kernel, by decide +kernel, by decide +kernel⟩, ic_mg 737 (by decide +kernel) (by decide +kernel), ic_mg 738 (by decide +kernel) (by decide +kernel)⟩
theorem okX1_told : ic_okv mX1_told 1 := ⟨⟨odX1_told, by decide +kernel, ic_mg 506 (by decide +kernel) (by decide +kernel), ic_mg 7 (by decide +kernel) (by decide +kernel), by decide +kernel, by decide +kernel, by decide +kernel⟩, ic_mg 504 (by decide +kernel) (by decide +kernel), ic_mg 505 (by decide +kernel) (by decide +kernel)⟩
theorem okX1_put : ic_okv mX1_put 2 := ⟨⟨odX1_put, by decide +kernel, ic_mg 747 (by decide +kernel) (by decide +kernel), ic_mg 7 (by decide +kernel) (by decide +kernel), by decide +kernel, by decide +kernel, by decide +kernel⟩, ic_mg 745 (by decide +kernel) (by decide +kernel), ic_mg 746 (by decide +kernel) (by decide +kernel)⟩
theorem okX1_hasRun : ic_okv mX1_hasRun 2 := ⟨⟨odX1_hasRun, by decide +kernel, ic_mg 755 (by decide +kernel) (by decide +kernel), ic_mg 7 (by decide +kernel) (by decide +kernel), by decide +kernel, by decide +kernel, by decide +kernel⟩, ic_mg 753 (by decide +kernel) (by decide +kernel), ic_mg 754 (by decide +kernel) (by decide +kernel)⟩
theorem okX2_match : ic_okv mX2_match 1 := ⟨⟨odX2_match, by decide +kernel, ic_mg 405 (by decide +kernel) (by decide +kernel), ic_mg 2 (by decide +kernel) (by decide +kernel), by decide +kernel, by decide +kernel, by decide +kernel⟩, ic_mg 403 (by decide +kernel) (by decide +kernel), ic_mg 404 (by decide +kernel) (by decide +kernel)⟩
theorem okX2_cartTold : ic_okv mX2_cartTold 1 := ⟨⟨odX2_cartTold, by decide +kernel, ic_mg 220 (by decide +kernel) (by decide +kernel), ic_mg 2 (by decide +kernel) (by decide +kernel), by decide +kernel, by decide +kernel, by decide +kernel⟩, ic_mg 218 (by decide +kernel) (by decide +kernel), ic_mg 219 (by decide +kernel) (by decide +kernel)⟩
theorem okX2_alterCart : ic_okv mX2_alterCart 2 := ⟨⟨odX2_alterCart, by decide +kernel, ic_mg 224 (by decide +kernel) (by decide +kernel), ic_mg 2 (by decide +kernel) (by decide +kernel), by decide +kernel, by decide +kernel, by decide +kernel⟩, ic_mg 222 (by decide +kernel) (by decide +kernel), ic_mg 223 (by decide +kernel) (by decide +kernel)⟩
theorem okX2_hasThing : ic_okv mX2_hasThing 1 := ⟨⟨odX2_hasThing, by decide +kernel, ic_mg 306 (by decide +kernel) (by decide +kernel), ic_mg 2 (by decide +kernel) (by decide +kernel), by decide +kernel, by decide +kernel, by decide +kernel⟩, ic_mg 304 (by decide +kernel) (by decide +kernel), ic_mg 305 (by decide +kernel) (by decide +kernel)⟩
theorem okX2_thingAt : ic_okv mX2_thingAt 1 := ⟨⟨odX2_thingAt, by decide +kernel, ic_mg 246 (by decide +kernel) (by decide +kernel), ic_mg 2 (by decide +kernel) (by decide +kernel), by decide +kernel, by decide +kernel, by decide +kernel⟩, ic_mg 244 (by decide +kernel) (by decide +kernel), ic_mg 245 (by decide +kernel) (by decide +kernel)⟩
theorem okX2_addThing : ic_okv mX2_addThing 2 := ⟨⟨odX2_addThing, by decide +kernel, ic_mg 242 (by decide +kernel) (by decide +kernel), ic_mg 2 (by decide +kernel) (by decide +kernel), by decide +kernel, by decide +kernel, by decide +kernel⟩, ic_mg 240 (by decide +kernel) (by decide +kernel), ic_mg 241 (by decide +kernel) (by decide +kernel)⟩
theorem okX2_told : ic_okv mX2_told 2 := ⟨⟨odX2_told, by decide +kernel, ic_mg 258 (by decide +kernel) (by decide +kernel), ic_mg 2 (by decide +kernel) (by decide +kernel), by decide +kernel, by decide +kernel, by decide +kernel⟩, ic_mg 256 (by decide +kernel) (by decide +kernel), ic_mg 257 (by decide +kernel) (by decide +kernel)⟩
theorem okX2_alter : ic_okv mX2_alter 3 := ⟨⟨odX2_alter, by decide +kernel, ic_mg 316 (by decide +kernel) (by decide +kernel), ic_mg 2 (by decide +kernel) (by decide +kernel), by decide +kernel, by decide +kernel, by decide +kernel⟩, ic_mg 314 (by decide +kernel) (by decide +kernel), ic_mg 315 (by decide +kernel) (by decide +kernel)⟩
theorem okX2_isOfKind : ic_okv mX2_isOfKind 2 := ⟨⟨odX2_isOfKind, by decide +kernel, ic_mg 724 (by decide +kernel) (by decide +kernel), ic_mg 2 (by decide +kernel) (by decide +kernel), by decide +kernel, by decide +kernel, by decide +kernel⟩, ic_mg 722 (by decide +kernel) (by decide +kernel), ic_mg 723 (by decide +kernel) (by decide +kernel)⟩
theorem okX2_feltBy : ic_okv mX2_feltBy 2 := ⟨⟨odX2_feltBy, by decide +kernel, ic_mg 262 (by decide +kernel) (by decide +kernel), ic_mg 2 (by decide +kernel) (by decide +kernel), by decide +kernel, by decide +kernel, by decide +kernel⟩, ic_mg 260 (by decide +kernel) (by decide +kernel), ic_mg 261 (by decide +kernel) (by decide +kernel)⟩
theorem okX2_cellsToFeel : ic_okv mX2_cellsToFeel 2 := ⟨⟨odX2_cellsToFeel, by decide +kernel, ic_mg 527 (by decide +kernel) (by decide +kernel), ic_mg 2 (by decide +kernel) (by decide +kernel), by decide +kernel, by decide +kernel, by decide +kernel⟩, ic_mg 525 (by decide +kernel) (by decide +kernel), ic_mg 526 (by decide +kernel) (by decide +kernel)⟩
theorem okX2_holdThings : ic_okv mX2_holdThings 1 := ⟨⟨odX2_holdThings, by decide +kernel, ic_mg 481 (by decide +kernel) (by decide +kernel), ic_mg 2 (by decide +kernel) (by decide +kernel), by decide +kernel, by decide +kernel, by decide +kernel⟩, ic_mg 479 (by decide +kernel) (by decide +kernel), ic_mg 480 (by decide +kernel) (by decide +kernel)⟩
theorem okX2_thingsAt : ic_okv mX2_thingsAt 1 := ⟨⟨odX2_thingsAt, by decide +kernel, ic_mg 276 (by decide +kernel) (by decide +kernel), ic_mg 2 (by decide +kernel) (by decide +kernel), by decide +kernel, by decide +kernel, by decide +kernel⟩, ic_mg 274 (by decide +kernel) (by decide +kernel), ic_mg 275 (by decide +kernel) (by decide +kernel)⟩
theorem okX2_thingsWith : ic_okv mX2_thingsWith 2 := ⟨⟨odX2_thingsWith, by decide +kernel, ic_mg 373 (by decide +kernel) (by decide +kernel), ic_mg 2 (by decide +kernel) (by decide +kernel), by decide +kernel, by decide +kernel, by decide +kernel⟩, ic_mg 371 (by decide +kernel) (by decide +kernel), ic_mg 372 (by decide +kernel) (by decide +kernel)⟩
theorem okX2_cellsInUse : ic_okv mX2_cellsInUse 0 := ⟨⟨odX2_cellsInUse, by decide +kernel, ic_mg 393 (by decide +kernel) (by decide +kernel), ic_mg 2 (by decide +kernel) (by decide +kernel), by decide +kernel, by decide +kernel, by decide +kernel⟩, ic_mg 391 (by decide +kernel) (by decide +kernel), ic_mg 392 (by decide +kernel) (by decide +kernel)⟩
theorem okX2_sumOf : ic_okv mX2_sumOf 1 := ⟨⟨odX2_sumOf, by decide +kernel, ic_mg 381 (by decide +kernel) (by decide +kernel), ic_mg 2 (by decide +kernel) (by decide +kernel), by decide +kernel, by decide +kernel, by decide +kernel⟩, ic_mg 379 (by decide +kernel) (by decide +kernel), ic_mg 380 (by decide +kernel) (by decide +kernel)⟩
theorem okX2_takenHeavy : ic_okv mX2_takenHeavy 0 := ⟨⟨odX2_takenHeavy, by decide +kernel, ic_mg 385 (by decide +kernel) (by decide +kernel), ic_mg 2 (by decide +kernel) (by decide +kernel), by decide +kernel, by decide +kernel, by decide +kernel⟩, ic_mg 383 (by decide +kernel) (by decide +kernel), ic_mg 384 (by decide +kernel) (by decide +kernel)⟩
theorem okX2_mostFeeling : ic_okv mX2_mostFeeling 0 := ⟨⟨odX2_mostFeeling, by decide +kernel, ic_mg 389 (by decide +kernel) (by decide +kernel), ic_mg 2 (by decide +kernel) (by decide +kernel), by decide +kernel, by decide +kernel, by decide +kernel⟩, ic_mg 387 (by decide +kernel) (by decide +kernel), ic_mg 388 (by decide +kernel) (by decide +kernel)⟩
theorem okX2_callTimes : ic_okv mX2_callTimes 1 := ⟨⟨odX2_callTimes, by decide +kernel, ic_mg 334 (by decide +kernel) (by decide +kernel), ic_mg 2 (by decide +kernel) (by decide +kernel), by decide +kernel, by decide +kernel, by decide +kernel⟩, ic_mg 332 (by decide +kernel) (by decide +kernel), ic_mg 333 (by decide +kernel) (by decide +kernel)⟩
theorem okX2_rollCart : ic_okv mX2_rollCart 0 := ⟨⟨odX2_rollCart, by decide +kernel, ic_mg 338 (by decide +kernel) (by decide +kernel), ic_mg 2 (by decide +kernel) (by decide +kernel), by decide +kernel, by decide +kernel, by decide +kernel⟩, ic_mg 336 (by decide +kernel) (by decide +kernel), ic_mg 337 (by decide +kernel) (by decide +kernel)⟩
theorem okX2_turnAtEnds : ic_okv mX2_turnAtEnds 0 := ⟨⟨odX2_turnAtEnds, by decide +kernel, ic_mg 342 (by decide +kernel) (by decide +kernel), ic_mg 2 (by decide +kernel) (by decide +kernel), by decide +kernel, by decide +kernel, by decide +kernel⟩, ic_mg 340 (by decide +kernel) (by decide +kernel), ic_mg 341 (by decide +kernel) (by decide +kernel)⟩
theorem okX2_pullThings : ic_okv mX2_pullThings 0 := ⟨⟨odX2_pullThings, by decide +kernel, ic_mg 346 (by decide +kernel) (by decide +kernel), ic_mg 2 (by decide +kernel) (by decide +kernel), by decide +kernel, by decide +kernel, by decide +kernel⟩, ic_mg 344 (by decide +kernel) (by decide +kernel), ic_mg 345 (by decide +kernel) (by decide +kernel)⟩
theorem okX2_takeThings : ic_okv mX2_takeThings 0 := ⟨⟨odX2_takeThings, by decide +kernel, ic_mg 358 (by decide +kernel) (by decide +kernel), ic_mg 2 (by decide +kernel) (by decide +kernel), by decide +kernel, by decide +kernel, by decide +kernel⟩, ic_mg 356 (by decide +kernel) (by decide +kernel), ic_mg 357 (by decide +kernel) (by decide +kernel)⟩
theorem okX2_restThings : ic_okv mX2_restThings 0 := ⟨⟨odX2_restThings, by decide +kernel, ic_mg 363 (by decide +kernel) (by decide +kernel), ic_mg 2 (by decide +kernel) (by decide +kernel), by decide +kernel, by decide +kernel, by decide +kernel⟩, ic_mg 361 (by decide +kernel) (by decide +kernel), ic_mg 362 (by decide +kernel) (by decide +kernel)⟩
theorem okX2_draw : ic_okv mX2_draw 0 := ⟨⟨odX2_draw, by decide +kernel, ic_mg 518 (by decide +kernel) (by decide +kernel), ic_mg 2 (by decide +kernel) (by decide +kernel), by decide +kernel, by decide +kernel, by decide +kernel⟩, ic_mg 516 (by decide +kernel) (by decide +kernel), ic_mg 517 (by decide +kernel) (by decide +kernel)⟩
theorem okX2_hasSpot : ic_okv mX2_hasSpot 1 := ⟨⟨odX2_hasSpot, by decide +kernel, ic_mg 714 (by decide +kernel) (by decide +kernel), ic_mg 2 (by decide +kernel) (by decide +kernel), by decide +kernel, by decide +kernel, by decide +kernel⟩, ic_mg 712 (by decide +kernel) (by decide +kernel), ic_mg 713 (by decide +kernel) (by decide +kernel)⟩
theorem okX2_spotTold : ic_okv mX2_spotTold 1 := ⟨⟨odX2_spotTold, by decide +kernel, ic_mg 413 (by decide +kernel) (by decide +kernel), ic_mg 2 (by decide +kernel) (by decide +kernel), by decide +kernel, by decide +kernel, by decide +kernel⟩, ic_mg 411 (by decide +kernel) (by decide +kernel), ic_mg 412 (by decide +kernel) (by decide +kernel)⟩
theorem okX2_putSpot : ic_okv mX2_putSpot 2 := ⟨⟨odX2_putSpot, by decide +kernel, ic_mg 417 (by decide +kernel) (by decide +kernel), ic_mg 2 (by decide +kernel) (by decide +kernel), by decide +kernel, by decide +kernel, by decide +kernel⟩, ic_mg 415 (by decide +kernel) (by decide +kernel), ic_mg 416 (by decide +kernel) (by decide +kernel)⟩
theorem okX2_spotsInUse : ic_okv mX2_spotsInUse 0 := ⟨⟨odX2_spotsInUse, by decide +kernel, ic_mg 786 (by decide +kernel) (by decide +kernel), ic_mg 2 (by decide +kernel) (by decide +kernel), by decide +kernel, by decide +kernel, by decide +kernel⟩, ic_mg 784 (by decide +kernel) (by decide +kernel), ic_mg 785 (by decide +kernel) (by decide +kernel)⟩
theorem okX3_append : ic_okv mX3_append 1 := ⟨⟨odX3_append, by decide +kernel, ic_mg 542 (by decide +kernel) (by decide +kernel), ic_mg 4 (by decide +kernel) (by decide +kernel), by decide +kernel, by decide +kernel, by decide +kernel⟩, ic_mg 540 (by decide +kernel) (by decide +kernel), ic_mg 541 (by decide +kernel) (by decide +kernel)⟩
theorem okX3_byteAt : ic_okv mX3_byteAt 1 := ⟨⟨odX3_byteAt, by decide +kernel, ic_mg 558 (by decide +kernel) (by decide +kernel), ic_mg 4 (by decide +kernel) (by decide +kernel), by decide +kernel, by decide +kernel, by decide +kernel⟩, ic_mg 556 (by decide +kernel) (by decide +kernel), ic_mg 557 (by decide +kernel) (by decide +kernel)⟩
theorem okX3_hasLetter : ic_okv mX3_hasLetter 1 := ⟨⟨odX3_hasLetter, by decide +kernel, ic_mg 566 (by decide +kernel) (by decide +kernel), ic_mg 4 (by decide +kernel) (by decide +kernel), by decide +kernel, by decide +kernel, by decide +kernel⟩, ic_mg 564 (by decide +kernel) (by decide +kernel), ic_mg 565 (by decide +kernel) (by decide +kernel)⟩
theorem okX3_hasDigit : ic_okv mX3_hasDigit 1 := ⟨⟨odX3_hasDigit, by decide +kernel, ic_mg 654 (by decide +kernel) (by decide +kernel), ic_mg 4 (by decide +kernel) (by decide +kernel), by decide +kernel, by decide +kernel, by decide +kernel⟩, ic_mg 652 (by decide +kernel) (by decide +kernel), ic_mg 653 (by decide +kernel) (by decide +kernel)⟩
theorem okX3_spells : ic_okv mX3_spells 3 := ⟨⟨odX3_spells, by decide +kernel, ic_mg 598 (by decide +kernel) (by decide +kernel), ic_mg 4 (by decide +kernel) (by decide +kernel), by decide +kernel, by decide +kernel, by decide +kernel⟩, ic_mg 596 (by decide +kernel) (by decide +kernel), ic_mg 597 (by decide +kernel) (by decide +kernel)⟩
theorem okX4_renew : ic_okv mX4_renew 2 := ⟨⟨odX4_renew, by decide +kernel, ic_mg 250 (by decide +kernel) (by decide +kernel), ic_mg 3 (by decide +kernel) (by decide +kernel), by decide +kernel, by decide +kernel, by decide +kernel⟩, ic_mg 248 (by decide +kernel) (by decide +kernel), ic_mg 249 (by decide +kernel) (by decide +kernel)⟩
theorem okX4_match : ic_okv mX4_match 1 := ⟨⟨odX4_match, by decide +kernel, ic_mg 409 (by decide +kernel) (by decide +kernel), ic_mg 3 (by decide +kernel) (by decide +kernel), by decide +kernel, by decide +kernel, by decide +kernel⟩, ic_mg 407 (by decide +kernel) (by decide +kernel), ic_mg 408 (by decide +kernel) (by decide +kernel)⟩
theorem okX4_told : ic_okv mX4_told 1 := ⟨⟨odX4_told, by decide +kernel, ic_mg 286 (by decide +kernel) (by decide +kernel), ic_mg 3 (by decide +kernel) (by decide +kernel), by decide +kernel, by decide +kernel, by decide +kernel⟩, ic_mg 284 (by decide +kernel) (by decide +kernel), ic_mg 285 (by decide +kernel) (by decide +kernel)⟩
theorem okX4_alter : ic_okv mX4_alter 2 := ⟨⟨odX4_alter, by decide +kernel, ic_mg 320 (by decide +kernel) (by decide +kernel), ic_mg 3 (by decide +kernel) (by decide +kernel), by decide +kernel, by decide +kernel, by decide +kernel⟩, ic_mg 318 (by decide +kernel) (by decide +kernel), ic_mg 319 (by decide +kernel) (by decide +kernel)⟩
theorem okX4_feels : ic_okv mX4_feels 3 := ⟨⟨odX4_feels, by decide +kernel, ic_mg 269 (by decide +kernel) (by decide +kernel), ic_mg 3 (by decide +kernel) (by decide +kernel), by decide +kernel, by decide +kernel, by decide +kernel⟩, ic_mg 267 (by decide +kernel) (by decide +kernel), ic_mg 268 (by decide +kernel) (by decide +kernel)⟩
theorem okX4_steps : ic_okv mX4_steps 0 := ⟨⟨odX4_steps, by decide +kernel, ic_mg 290 (by decide +kernel) (by decide +kernel), ic_mg 3 (by decide +kernel) (by decide +kernel), by decide +kernel, by decide +kernel, by decide +kernel⟩, ic_mg 288 (by decide +kernel) (by decide +kernel), ic_mg 289 (by decide +kernel) (by decide +kernel)⟩
theorem okX4_isLiked : ic_okv mX4_isLiked 0 := ⟨⟨odX4_isLiked, by decide +kernel, ic_mg 294 (by decide +kernel) (by decide +kernel), ic_mg 3 (by decide +kernel) (by decide +kernel), by decide +kernel, by decide +kernel, by decide +kernel⟩, ic_mg 292 (by decide +kernel) (by decide +kernel), ic_mg 293 (by decide +kernel) (by decide +kernel)⟩
theorem okX4_rests : ic_okv mX4_rests 0 := ⟨⟨odX4_rests, by decide +kernel, ic_mg 298 (by decide +kernel) (by decide +kernel), ic_mg 3 (by decide +kernel) (by decide +kernel), by decide +kernel, by decide +kernel, by decide +kernel⟩, ic_mg 296 (by decide +kernel) (by decide +kernel), ic_mg 297 (by decide +kernel) (by decide +kernel)⟩
theorem okX4_isOfKind : ic_okv mX4_isOfKind 1 := ⟨⟨odX4_isOfKind, by decide +kernel, ic_mg 728 (by decide +kernel) (by decide +kernel), ic_mg 3 (by decide +kernel) (by decide +kernel), by decide +kernel, by decide +kernel, by decide +kernel⟩, ic_mg 726 (by decide +kernel) (by decide +kernel), ic_mg 727 (by decide +kernel) (by decide +kernel)⟩
theorem okX4_kindAbove : ic_oks mX4_kindAbove 1 := ⟨⟨odX4_kindAbove, by decide +kernel, ic_mg 731 (by decide +kernel) (by decide +kernel), ic_mg 3 (by decide +kernel) (by decide +kernel), by decide +kernel, by decide +kernel, by decide +kernel⟩, ic_mg 730 (by decide +kernel) (by decide +kernel)⟩
theorem okX4_strain : ic_okv mX4_strain 2 := ⟨⟨odX4_strain, by decide +kernel, ic_mg 350 (by decide +kernel) (by decide +kernel), ic_mg 3 (by decide +kernel) (by decide +kernel), by decide +kernel, by decide +kernel, by decide +kernel⟩, ic_mg 348 (by decide +kernel) (by decide +kernel), ic_mg 349 (by decide +kernel) (by decide +kernel)⟩
theorem okX4_rest : ic_okv mX4_rest 0 := ⟨⟨odX4_rest, by decide +kernel, ic_mg 367 (by decide +kernel) (by decide +kernel), ic_mg 3 (by decide +kernel) (by decide +kernel), by decide +kernel, by decide +kernel, by decide +kernel⟩, ic_mg 365 (by decide +kernel) (by decide +kernel), ic_mg 366 (by decide +kernel) (by decide +kernel)⟩
theorem okX5_cut : ic_okv mX5_cut 0 := ⟨⟨odX5_cut, by decide +kernel, ic_mg 554 (by decide +kernel) (by decide +kernel), ic_mg 5 (by decide +kernel) (by decide +kernel), by decide +kernel, by decide +kernel, by decide +kernel⟩, ic_mg 552 (by decide +kernel) (by decide +kernel), ic_mg 553 (by decide +kernel) (by decide +kernel)⟩
theorem okX5_cutToken : ic_okv mX5_cutToken 1 := ⟨⟨odX5_cutToken, by decide +kernel, ic_mg 562 (by decide +kernel) (by decide +kernel), ic_mg 5 (by decide +kernel) (by decide +kernel), by decide +kernel, by decide +kernel, by decide +kernel⟩, ic_mg 560 (by decide +kernel) (by decide +kernel), ic_mg 561 (by decide +kernel) (by decide +kernel)⟩
theorem okX5_cutWord : ic_okv mX5_cutWord 1 := ⟨⟨odX5_cutWord, by decide +kernel, ic_mg 571 (by decide +kernel) (by decide +kernel), ic_mg 5 (by decide +kernel) (by decide +kernel), by decide +kernel, by decide +kernel, by decide +kernel⟩, ic_mg 569 (by decide +kernel) (by decide +kernel), ic_mg 570 (by decide +kernel) (by decide +kernel)⟩
theorem okX5_wordSpelt : ic_okv mX5_wordSpelt 2 := ⟨⟨odX5_wordSpelt, by decide +kernel, ic_mg 575 (by decide +kernel) (by decide +kernel), ic_mg 5 (by decide +kernel) (by decide +kernel), by decide +kernel, by decide +kernel, by decide +kernel⟩, ic_mg 573 (by decide +kernel) (by decide +kernel), ic_mg 574 (by decide +kernel) (by decide +kernel)⟩
theorem okX5_cutNumber : ic_okv mX5_cutNumber 1 := ⟨⟨odX5_cutNumber, by decide +kernel, ic_mg 658 (by decide +kernel) (by decide +kernel), ic_mg 5 (by decide +kernel) (by decide +kernel), by decide +kernel, by decide +kernel, by decide +kernel⟩, ic_mg 656 (by decide +kernel) (by decide +kernel), ic_mg 657 (by decide +kernel) (by decide +kernel)⟩
theorem okX5_append : ic_okv mX5_append 3 := ⟨⟨odX5_append, by decide +kernel, ic_mg 650 (by decide +kernel) (by decide +kernel), ic_mg 5 (by decide +kernel) (by decide +kernel), by decide +kernel, by decide +kernel, by decide +kernel⟩, ic_mg 648 (by decide +kernel) (by decide +kernel), ic_mg 649 (by decide +kernel) (by decide +kernel)⟩
theorem okX5_sortAt : ic_okv mX5_sortAt 1 := ⟨⟨odX5_sortAt, by decide +kernel, ic_mg 675 (by decide +kernel) (by decide +kernel), ic_mg 5 (by decide +kernel) (by decide +kernel), by decide +kernel, by decide +kernel, by decide +kernel⟩, ic_mg 673 (by decide +kernel) (by decide +kernel), ic_mg 674 (by decide +kernel) (by decide +kernel)⟩
theorem okX5_placeAt : ic_okv mX5_placeAt 1 := ⟨⟨odX5_placeAt, by decide +kernel, ic_mg 705 (by decide +kernel) (by decide +kernel), ic_mg 5 (by decide +kernel) (by decide +kernel), by decide +kernel, by decide +kernel, by decide +kernel⟩, ic_mg 703 (by decide +kernel) (by decide +kernel), ic_mg 704 (by decide +kernel) (by decide +kernel)⟩
theorem okX5_valueAt : ic_okv mX5_valueAt 1 := ⟨⟨odX5_valueAt, by decide +kernel, ic_mg 671 (by decide +kernel) (by decide +kernel), ic_mg 5 (by decide +kernel) (by decide +kernel), by decide +kernel, by decide +kernel, by decide +kernel⟩, ic_mg 669 (by decide +kernel) (by decide +kernel), ic_mg 670 (by decide +kernel) (by decide +kernel)⟩
theorem okX5_nameOf : ic_oks mX5_nameOf 1 := ⟨⟨odX5_nameOf, by decide +kernel, ic_mg 578 (by decide +kernel) (by decide +kernel), ic_mg 5 (by decide +kernel) (by decide +kernel), by decide +kernel, by decide +kernel, by decide +kernel⟩, ic_mg 577 (by decide +kernel) (by decide +kernel)⟩
theorem okX6_set : ic_okv mX6_set 2 := ⟨⟨odX6_set, by decide +kernel, ic_mg 208 (by decide +kernel) (by decide +kernel), ic_mg 1 (by decide +kernel) (by decide +kernel), by decide +kernel, by decide +kernel, by decide +kernel⟩, ic_mg 206 (by decide +kernel) (by decide +kernel), ic_mg 207 (by decide +kernel) (by decide +kernel)⟩
theorem okX6_cart : ic_okv mX6_cart 1 := ⟨⟨odX6_cart, by decide +kernel, ic_mg 228 (by decide +kernel) (by decide +kernel), ic_mg 1 (by decide +kernel) (by decide +kernel), by decide +kernel, by decide +kernel, by decide +kernel⟩, ic_mg 226 (by decide +kernel) (by decide +kernel), ic_mg 227 (by decide +kernel) (by decide +kernel)⟩
theorem okX6_thing : ic_okv mX6_thing 2 := ⟨⟨odX6_thing, by decide +kernel, ic_mg 232 (by decide +kernel) (by decide +kernel), ic_mg 1 (by decide +kernel) (by decide +kernel), by decide +kernel, by decide +kernel, by decide +kernel⟩, ic_mg 230 (by decide +kernel) (by decide +kernel), ic_mg 231 (by decide +kernel) (by decide +kernel)⟩
theorem okX6_of : ic_okv mX6_of 2 := ⟨⟨odX6_of, by decide +kernel, ic_mg 254 (by decide +kernel) (by decide +kernel), ic_mg 1 (by decide +kernel) (by decide +kernel), by decide +kernel, by decide +kernel, by decide +kernel⟩, ic_mg 252 (by decide +kernel) (by decide +kernel), ic_mg 253 (by decide +kernel) (by decide +kernel)⟩
theorem okX6_change : ic_okv mX6_change 3 := ⟨⟨odX6_change, by decide +kernel, ic_mg 302 (by decide +kernel) (by decide +kernel), ic_mg 1 (by decide +kernel) (by decide +kernel), by decide +kernel, by decide +kernel, by decide +kernel⟩, ic_mg 300 (by decide +kernel) (by decide +kernel), ic_mg 301 (by decide +kernel) (by decide +kernel)⟩
theorem okX6_who : ic_okv mX6_who 1 := ⟨⟨odX6_who, by decide +kernel, ic_mg 324 (by decide +kernel) (by decide +kernel), ic_mg 1 (by decide +kernel) (by decide +kernel), by decide +kernel, by decide +kernel, by decide +kernel⟩, ic_mg 322 (by decide +kernel) (by decide +kernel), ic_mg 323 (by decide +kernel) (by decide +kernel)⟩
theorem okX6_go : ic_okv mX6_go 1 := ⟨⟨odX6_go, by decide +kernel, ic_mg 329 (by decide +kernel) (by decide +kernel), ic_mg 1 (by decide +kernel) (by decide +kernel), by decide +kernel, by decide +kernel, by decide +kernel⟩, ic_mg 327 (by decide +kernel) (by decide +kernel), ic_mg 328 (by decide +kernel) (by decide +kernel)⟩
theorem okX6_now : ic_okv mX6_now 1 := ⟨⟨odX6_now, by decide +kernel, ic_mg 377 (by decide +kernel) (by decide +kernel), ic_mg 1 (by decide +kernel) (by decide +kernel), by decide +kernel, by decide +kernel, by decide +kernel⟩, ic_mg 375 (by decide +kernel) (by decide +kernel), ic_mg 376 (by decide +kernel) (by decide +kernel)⟩
theorem okX6_ahead : ic_okv mX6_ahead 3 := ⟨⟨odX6_ahead, by decide +kernel, ic_mg 397 (by decide +kernel) (by decide +kernel), ic_mg 1 (by decide +kernel) (by decide +kernel), by decide +kernel, by decide +kernel, by decide +kernel⟩, ic_mg 395 (by decide +kernel) (by decide +kernel), ic_mg 396 (by decide +kernel) (by decide +kernel)⟩
theorem okX6_where : ic_okv mX6_where 1 := ⟨⟨odX6_where, by decide +kernel, ic_mg 421 (by decide +kernel) (by decide +kernel), ic_mg 1 (by decide +kernel) (by decide +kernel), by decide +kernel, by decide +kernel, by decide +kernel⟩, ic_mg 419 (by decide +kernel) (by decide +kernel), ic_mg 420 (by decide +kernel) (by decide +kernel)⟩
theorem okX6_taken : ic_okv mX6_taken 1 := ⟨⟨odX6_taken, by decide +kernel, ic_mg 425 (by decide +kernel) (by decide +kernel), ic_mg 1 (by decide +kernel) (by decide +kernel), by decide +kernel, by decide +kernel, by decide +kernel⟩, ic_mg 423 (by decide +kernel) (by decide +kernel), ic_mg 424 (by decide +kernel) (by decide +kernel)⟩
theorem okX6_when : ic_okv mX6_when 2 := ⟨⟨odX6_when, by decide +kernel, ic_mg 433 (by decide +kernel) (by decide +kernel), ic_mg 1 (by decide +kernel) (by decide +kernel), by decide +kernel, by decide +kernel, by decide +kernel⟩, ic_mg 431 (by decide +kernel) (by decide +kernel), ic_mg 432 (by decide +kernel) (by decide +kernel)⟩
theorem okX6_meet : ic_okv mX6_meet 2 := ⟨⟨odX6_meet, by decide +kernel, ic_mg 437 (by decide +kernel) (by decide +kernel), ic_mg 1 (by decide +kernel) (by decide +kernel), by decide +kernel, by decide +kernel, by decide +kernel⟩, ic_mg 435 (by decide +kernel) (by decide +kernel), ic_mg 436 (by decide +kernel) (by decide +kernel)⟩
theorem okX6_strained : ic_okv mX6_strained 2 := ⟨⟨odX6_strained, by decide +kernel, ic_mg 441 (by decide +kernel) (by decide +kernel), ic_mg 1 (by decide +kernel) (by decide +kernel), by decide +kernel, by decide +kernel, by decide +kernel⟩, ic_mg 439 (by decide +kernel) (by decide +kernel), ic_mg 440 (by decide +kernel) (by decide +kernel)⟩
theorem okX6_loudFor : ic_okv mX6_loudFor 2 := ⟨⟨odX6_loudFor, by decide +kernel, ic_mg 445 (by decide +kernel) (by decide +kernel), ic_mg 1 (by decide +kernel) (by decide +kernel), by decide +kernel, by decide +kernel, by decide +kernel⟩, ic_mg 443 (by decide +kernel) (by decide +kernel), ic_mg 444 (by decide +kernel) (by decide +kernel)⟩
theorem okX6_startFor : ic_okv mX6_startFor 1 := ⟨⟨odX6_startFor, by decide +kernel, ic_mg 452 (by decide +kernel) (by decide +kernel), ic_mg 1 (by decide +kernel) (by decide +kernel), by decide +kernel, by decide +kernel, by decide +kernel⟩, ic_mg 450 (by decide +kernel) (by decide +kernel), ic_mg 451 (by decide +kernel) (by decide +kernel)⟩
theorem okX6_layFor : ic_okv mX6_layFor 2 := ⟨⟨odX6_layFor, by decide +kernel, ic_mg 456 (by decide +kernel) (by decide +kernel), ic_mg 1 (by decide +kernel) (by decide +kernel), by decide +kernel, by decide +kernel, by decide +kernel⟩, ic_mg 454 (by decide +kernel) (by decide +kernel), ic_mg 455 (by decide +kernel) (by decide +kernel)⟩
theorem okX6_kindFor : ic_okv mX6_kindFor 2 := ⟨⟨odX6_kindFor, by decide +kernel, ic_mg 464 (by decide +kernel) (by decide +kernel), ic_mg 1 (by decide +kernel) (by decide +kernel), by decide +kernel, by decide +kernel, by decide +kernel⟩, ic_mg 462 (by decide +kernel) (by decide +kernel), ic_mg 463 (by decide +kernel) (by decide +kernel)⟩
theorem okX6_heavyFor : ic_okv mX6_heavyFor 2 := ⟨⟨odX6_heavyFor, by decide +kernel, ic_mg 468 (by decide +kernel) (by decide +kernel), ic_mg 1 (by decide +kernel) (by decide +kernel), by decide +kernel, by decide +kernel, by decide +kernel⟩, ic_mg 466 (by decide +kernel) (by decide +kernel), ic_mg 467 (by decide +kernel) (by decide +kernel)⟩
theorem okX6_holdFast : ic_okv mX6_holdFast 1 := ⟨⟨odX6_holdFast, by decide +kernel, ic_mg 472 (by decide +kernel) (by decide +kernel), ic_mg 1 (by decide +kernel) (by decide +kernel), by decide +kernel, by decide +kernel, by decide +kernel⟩, ic_mg 470 (by decide +kernel) (by decide +kernel), ic_mg 471 (by decide +kernel) (by decide +kernel)⟩
theorem okX6_fits : ic_okv mX6_fits 2 := ⟨⟨odX6_fits, by decide +kernel, ic_mg 486 (by decide +kernel) (by decide +kernel), ic_mg 1 (by decide +kernel) (by decide +kernel), by decide +kernel, by decide +kernel, by decide +kernel⟩, ic_mg 484 (by decide +kernel) (by decide +kernel), ic_mg 485 (by decide +kernel) (by decide +kernel)⟩
theorem okX6_kinds : ic_okv mX6_kinds 2 := ⟨⟨odX6_kinds, by decide +kernel, ic_mg 510 (by decide +kernel) (by decide +kernel), ic_mg 1 (by decide +kernel) (by decide +kernel), by decide +kernel, by decide +kernel, by decide +kernel⟩, ic_mg 508 (by decide +kernel) (by decide +kernel), ic_mg 509 (by decide +kernel) (by decide +kernel)⟩
theorem okX6_calls : ic_okv mX6_calls 1 := ⟨⟨odX6_calls, by decide +kernel, ic_mg 514 (by decide +kernel) (by decide +kernel), ic_mg 1 (by decide +kernel) (by decide +kernel), by decide +kernel, by decide +kernel, by decide +kernel⟩, ic_mg 512 (by decide +kernel) (by decide +kernel), ic_mg 513 (by decide +kernel) (by decide +kernel)⟩
theorem okX6_odds : ic_okv mX6_odds 4 := ⟨⟨odX6_odds, by decide +kernel, ic_mg 523 (by decide +kernel) (by decide +kernel), ic_mg 1 (by decide +kernel) (by decide +kernel), by decide +kernel, by decide +kernel, by decide +kernel⟩, ic_mg 521 (by decide +kernel) (by decide +kernel), ic_mg 522 (by decide +kernel) (by decide +kernel)⟩
theorem okX6_seed : ic_okv mX6_seed 1 := ⟨⟨odX6_seed, by decide +kernel, ic_mg 534 (by decide +kernel) (by decide +kernel), ic_mg 1 (by decide +kernel) (by decide +kernel), by decide +kernel, by decide +kernel, by decide +kernel⟩, ic_mg 532 (by decide +kernel) (by decide +kernel), ic_mg 533 (by decide +kernel) (by decide +kernel)⟩
theorem okX6_feed : ic_okv mX6_feed 2 := ⟨⟨odX6_feed, by decide +kernel, ic_mg 538 (by decide +kernel) (by decide +kernel), ic_mg 1 (by decide +kernel) (by decide +kernel), by decide +kernel, by decide +kernel, by decide +kernel⟩, ic_mg 536 (by decide +kernel) (by decide +kernel), ic_mg 537 (by decide +kernel) (by decide +kernel)⟩
theorem okX6_wipe : ic_okv mX6_wipe 0 := ⟨⟨odX6_wipe, by decide +kernel, ic_mg 546 (by decide +kernel) (by decide +kernel), ic_mg 1 (by decide +kernel) (by decide +kernel), by decide +kernel, by decide +kernel, by decide +kernel⟩, ic_mg 544 (by decide +kernel) (by decide +kernel), ic_mg 545 (by decide +kernel) (by decide +kernel)⟩
theorem okX6_text : ic_okv mX6_text 0 := ⟨⟨odX6_text, by decide +kernel, ic_mg 550 (by decide +kernel) (by decide +kernel), ic_mg 1 (by decide +kernel) (by decide +kernel), by decide +kernel, by decide +kernel, by decide +kernel⟩, ic_mg 548 (by decide +kernel) (by decide +kernel), ic_mg 549 (by decide +kernel) (by decide +kernel)⟩
theorem okX6_hold : ic_okv mX6_hold 2 := ⟨⟨odX6_hold, by decide +kernel, ic_mg 710 (by decide +kernel) (by decide +kernel), ic_mg 1 (by decide +kernel) (by decide +kernel), by decide +kernel, by decide +kernel, by decide +kernel⟩, ic_mg 708 (by decide +kernel) (by decide +kernel), ic_mg 709 (by decide +kernel) (by decide +kernel)⟩
theorem okX6_as : ic_okv mX6_as 2 := ⟨⟨odX6_as, by decide +kernel, ic_mg 719 (by decide +kernel) (by decide +kernel), ic_mg 1 (by decide +kernel) (by decide +kernel), by decide +kernel, by decide +kernel, by decide +kernel⟩, ic_mg 717 (by decide +kernel) (by decide +kernel), ic_mg 718 (by decide +kernel) (by decide +kernel)⟩
theorem okX6_sheet : ic_okv mX6_sheet 3 := ⟨⟨odX6_sheet, by decide +kernel, ic_mg 735 (by decide +kernel) (by decide +kernel), ic_mg 1 (by decide +kernel) (by decide +kernel), by decide +kernel, by decide +kernel, by decide +kernel⟩, ic_mg 733 (by decide +kernel) (by decide +kernel), ic_mg 734 (by decide +kernel) (by decide +kernel)⟩
theorem okX6_write : ic_okv mX6_write 3 := ⟨⟨odX6_write, by decide +kernel, ic_mg 743 (by decide +kernel) (by decide +kernel), ic_mg 1 (by decide +kernel) (by decide +kernel), by decide +kernel, by decide +kernel, by decide +kernel⟩, ic_mg 741 (by decide +kernel) (by decide +kernel), ic_mg 742 (by decide +kernel) (by decide +kernel)⟩
theorem okX6_copy : ic_okv mX6_copy 5 := ⟨⟨odX6_copy, by decide +kernel, ic_mg 751 (by decide +kernel) (by decide +kernel), ic_mg 1 (by decide +kernel) (by decide +kernel), by decide +kernel, by decide +kernel, by decide +kernel⟩, ic_mg 749 (by decide +kernel) (by decide +kernel), ic_mg 750 (by decide +kernel) (by decide +kernel)⟩
theorem okX6_load : ic_okv mX6_load 1 := ⟨⟨odX6_load, by decide +kernel, ic_mg 762 (by decide +kernel) (by decide +kernel), ic_mg 1 (by decide +kernel) (by decide +kernel), by decide +kernel, by decide +kernel, by decide +kernel⟩, ic_mg 760 (by decide +kernel) (by decide +kernel), ic_mg 761 (by decide +kernel) (by decide +kernel)⟩
theorem okX6_judge : ic_okv mX6_judge 1 := ⟨⟨odX6_judge, by decide +kernel, ic_mg 766 (by decide +kernel) (by decide +kernel), ic_mg 1 (by decide +kernel) (by decide +kernel), by decide +kernel, by decide +kernel, by decide +kernel⟩, ic_mg 764 (by decide +kernel) (by decide +kernel), ic_mg 765 (by decide +kernel) (by decide +kernel)⟩
theorem okX6_image : ic_okv mX6_image 0 := ⟨⟨odX6_image, by decide +kernel, ic_mg 770 (by decide +kernel) (by decide +kernel), ic_mg 1 (by decide +kernel) (by decide +kernel), by decide +kernel, by decide +kernel, by decide +kernel⟩, ic_mg 768 (by decide +kernel) (by decide +kernel), ic_mg 769 (by decide +kernel) (by decide +kernel)⟩
theorem okX6_undo : ic_okv mX6_undo 0 := ⟨⟨odX6_undo, by decide +kernel, ic_mg 774 (by decide +kernel) (by decide +kernel), ic_mg 1 (by decide +kernel) (by decide +kernel), by decide +kernel, by decide +kernel, by decide +kernel⟩, ic_mg 772 (by decide +kernel) (by decide +kernel), ic_mg 773 (by decide +kernel) (by decide +kernel)⟩
theorem okX6_tear : ic_okv mX6_tear 0 := ⟨⟨odX6_tear, by decide +kernel, ic_mg 778 (by decide +kernel) (by decide +kernel), ic_mg 1 (by decide +kernel) (by decide +kernel), by decide +kernel, by decide +kernel, by decide +kernel⟩, ic_mg 776 (by decide +kernel) (by decide +kernel), ic_mg 777 (by decide +kernel) (by decide +kernel)⟩
theorem okX6_count : ic_okv mX6_count 1 := ⟨⟨odX6_count, by decide +kernel, ic_mg 782 (by decide +kernel) (by decide +kernel), ic_mg 1 (by decide +kernel) (by decide +kernel), by decide +kernel, by decide +kernel, by decide +kernel⟩, ic_mg 780 (by decide +kernel) (by decide +kernel), ic_mg 781 (by decide +kernel) (by decide +kernel)⟩
theorem okX6_status : ic_okv mX6_status 1 := ⟨⟨odX6_status, by decide +kernel, ic_mg 790 (by decide +kernel) (by decide +kernel), ic_mg 1 (by decide +kernel) (by decide +kernel), by decide +kernel, by decide +kernel, by decide +kernel⟩, ic_mg 788 (by decide +kernel) (by decide +kernel), ic_mg 789 (by decide +kernel) (by decide +kernel)⟩
theorem okX6_finding : ic_okv mX6_finding 1 := ⟨⟨odX6_finding, by decide +kernel, ic_mg 215 (by decide +kernel) (by decide +kernel), ic_mg 1 (by decide +kernel) (by decide +kernel), by decide +kernel, by decide +kernel, by decide +kernel⟩, ic_mg 214 (by decide +kernel) (by decide +kernel), ic_mp 0 (by decide +kernel) (by decide +kernel)⟩
theorem okX6_sheetAt : ic_okv mX6_sheetAt 1 := ⟨⟨odX6_sheetAt, by decide +kernel, ic_mg 494 (by decide +kernel) (by decide +kernel), ic_mg 1 (by decide +kernel) (by decide +kernel), by decide +kernel, by decide +kernel, by decide +kernel⟩, ic_mg 493 (by decide +kernel) (by decide +kernel), ic_mp 6 (by decide +kernel) (by decide +kernel)⟩
theorem okX6_startTrial : ic_okv mX6_startTrial 0 := ⟨⟨odX6_startTrial, by decide +kernel, ic_mg 401 (by decide +kernel) (by decide +kernel), ic_mg 1 (by decide +kernel) (by decide +kernel), by decide +kernel, by decide +kernel, by decide +kernel⟩, ic_mg 400 (by decide +kernel) (by decide +kernel), ic_mp 1 (by decide +kernel) (by decide +kernel)⟩
theorem okX6_fewestCalls : ic_okv mX6_fewestCalls 4 := ⟨⟨odX6_fewestCalls, by decide +kernel, ic_mg 429 (by decide +kernel) (by decide +kernel), ic_mg 1 (by decide +kernel) (by decide +kernel), by decide +kernel, by decide +kernel, by decide +kernel⟩, ic_mg 428 (by decide +kernel) (by decide +kernel), ic_mp 2 (by decide +kernel) (by decide +kernel)⟩
theorem okX6_furthestBy : ic_okv mX6_furthestBy 3 := ⟨⟨odX6_furthestBy, by decide +kernel, ic_mg 460 (by decide +kernel) (by decide +kernel), ic_mg 1 (by decide +kernel) (by decide +kernel), by decide +kernel, by decide +kernel, by decide +kernel⟩, ic_mg 459 (by decide +kernel) (by decide +kernel), ic_mp 3 (by decide +kernel) (by decide +kernel)⟩
theorem okX6_savesAll : ic_okv mX6_savesAll 2 := ⟨⟨odX6_savesAll, by decide +kernel, ic_mg 477 (by decide +kernel) (by decide +kernel), ic_mg 1 (by decide +kernel) (by decide +kernel), by decide +kernel, by decide +kernel, by decide +kernel⟩, ic_mg 476 (by decide +kernel) (by decide +kernel), ic_mp 4 (by decide +kernel) (by decide +kernel)⟩
theorem okX6_choicesAsTold : ic_okv mX6_choicesAsTold 4 := ⟨⟨odX6_choicesAsTold, by decide +kernel, ic_mg 490 (by decide +kernel) (by decide +kernel), ic_mg 1 (by decide +kernel) (by decide +kernel), by decide +kernel, by decide +kernel, by decide +kernel⟩, ic_mg 489 (by decide +kernel) (by decide +kernel), ic_mp 5 (by decide +kernel) (by decide +kernel)⟩
theorem okX6_trialGoesAs : ic_okv mX6_trialGoesAs 3 := ⟨⟨odX6_trialGoesAs, by decide +kernel, ic_mg 502 (by decide +kernel) (by decide +kernel), ic_mg 1 (by decide +kernel) (by decide +kernel), by decide +kernel, by decide +kernel, by decide +kernel⟩, ic_mg 501 (by decide +kernel) (by decide +kernel), ic_mp 7 (by decide +kernel) (by decide +kernel)⟩
theorem okX6_isKind : ic_oks mX6_isKind 1 := ⟨⟨odX6_isKind, by decide +kernel, ic_mg 235 (by decide +kernel) (by decide +kernel), ic_mg 1 (by decide +kernel) (by decide +kernel), by decide +kernel, by decide +kernel, by decide +kernel⟩, ic_mg 234 (by decide +kernel) (by decide +kernel)⟩
theorem okX6_isCell : ic_oks mX6_isCell 1 := ⟨⟨odX6_isCell, by decide +kernel, ic_mg 238 (by decide +kernel) (by decide +kernel), ic_mg 1 (by decide +kernel) (by decide +kernel), by decide +kernel, by decide +kernel, by decide +kernel⟩, ic_mg 237 (by decide +kernel) (by decide +kernel)⟩
theorem okX6_isPlanned : ic_oks mX6_isPlanned 1 := ⟨⟨odX6_isPlanned, by decide +kernel, ic_mg 448 (by decide +kernel) (by decide +kernel), ic_mg 1 (by decide +kernel) (by decide +kernel), by decide +kernel, by decide +kernel, by decide +kernel⟩, ic_mg 447 (by decide +kernel) (by decide +kernel)⟩
theorem okX6_mostOfCart : ic_oks mX6_mostOfCart 1 := ⟨⟨odX6_mostOfCart, by decide +kernel, ic_mg 211 (by decide +kernel) (by decide +kernel), ic_mg 1 (by decide +kernel) (by decide +kernel), by decide +kernel, by decide +kernel, by decide +kernel⟩, ic_mg 210 (by decide +kernel) (by decide +kernel)⟩
theorem okX6_leastOf : ic_oks mX6_leastOf 1 := ⟨⟨odX6_leastOf, by decide +kernel, ic_mg 309 (by decide +kernel) (by decide +kernel), ic_mg 1 (by decide +kernel) (by decide +kernel), by decide +kernel, by decide +kernel, by decide +kernel⟩, ic_mg 308 (by decide +kernel) (by decide +kernel)⟩
theorem okX6_mostOf : ic_oks mX6_mostOf 1 := ⟨⟨odX6_mostOf, by decide +kernel, ic_mg 312 (by decide +kernel) (by decide +kernel), ic_mg 1 (by decide +kernel) (by decide +kernel), by decide +kernel, by decide +kernel, by decide +kernel⟩, ic_mg 311 (by decide +kernel) (by decide +kernel)⟩
theorem okX6_power : ic_oks mX6_power 2 := ⟨⟨odX6_power, by decide +kernel, ic_mg 530 (by decide +kernel) (by decide +kernel), ic_mg 1 (by decide +kernel) (by decide +kernel), by decide +kernel, by decide +kernel, by decide +kernel⟩, ic_mg 529 (by decide +kernel) (by decide +kernel)⟩
theorem okX7_finds : ic_okv mX7_finds 1 := ⟨⟨odX7_finds, by decide +kernel, ic_mg 872 (by decide +kernel) (by decide +kernel), ic_mg 8 (by decide +kernel) (by decide +kernel), by decide +kernel, by decide +kernel, by decide +kernel⟩, ic_mg 871 (by decide +kernel) (by decide +kernel), ic_mp 9 (by decide +kernel) (by decide +kernel)⟩
theorem okX7_in : ic_oks mX7_in 3 := ⟨⟨odX7_in, by decide +kernel, ic_mg 862 (by decide +kernel) (by decide +kernel), ic_mg 8 (by decide +kernel) (by decide +kernel), by decide +kernel, by decide +kernel, by decide +kernel⟩, ic_mg 861 (by decide +kernel) (by decide +kernel)⟩
theorem okX7_held : ic_oks mX7_held 3 := ⟨⟨odX7_held, by decide +kernel, ic_mg 917 (by decide +kernel) (by decide +kernel), ic_mg 8 (by decide +kernel) (by decide +kernel), by decide +kernel, by decide +kernel, by decide +kernel⟩, ic_mg 916 (by decide +kernel) (by decide +kernel)⟩
theorem okX7_copies : ic_oks mX7_copies 2 := ⟨⟨odX7_copies, by decide +kernel, ic_mg 1012 (by decide +kernel) (by decide +kernel), ic_mg 8 (by decide +kernel) (by decide +kernel), by decide +kernel, by decide +kernel, by decide +kernel⟩, ic_mg 1011 (by decide +kernel) (by decide +kernel)⟩
theorem okX7_isThing : ic_okv mX7_isThing 1 := ⟨⟨odX7_isThing, by decide +kernel, ic_mg 898 (by decide +kernel) (by decide +kernel), ic_mg 8 (by decide +kernel) (by decide +kernel), by decide +kernel, by decide +kernel, by decide +kernel⟩, ic_mg 897 (by decide +kernel) (by decide +kernel), ic_mp 12 (by decide +kernel) (by decide +kernel)⟩
theorem okX7_isCell : ic_oks mX7_isCell 1 := ⟨⟨odX7_isCell, by decide +kernel, ic_mg 858 (by decide +kernel) (by decide +kernel), ic_mg 8 (by decide +kernel) (by decide +kernel), by decide +kernel, by decide +kernel, by decide +kernel⟩, ic_mg 857 (by decide +kernel) (by decide +kernel)⟩
theorem okX7_its : ic_okv mX7_its 2 := ⟨⟨odX7_its, by decide +kernel, ic_mg 911 (by decide +kernel) (by decide +kernel), ic_mg 8 (by decide +kernel) (by decide +kernel), by decide +kernel, by decide +kernel, by decide +kernel⟩, ic_mg 910 (by decide +kernel) (by decide +kernel), ic_mp 15 (by decide +kernel) (by decide +kernel)⟩
theorem okX7_sets : ic_okv mX7_sets 3 := ⟨⟨odX7_sets, by decide +kernel, ic_mg 890 (by decide +kernel) (by decide +kernel), ic_mg 8 (by decide +kernel) (by decide +kernel), by decide +kernel, by decide +kernel, by decide +kernel⟩, ic_mg 889 (by decide +kernel) (by decide +kernel), ic_mp 11 (by decide +kernel) (by decide +kernel)⟩
theorem okX7_becomes : ic_okv mX7_becomes 2 := ⟨⟨odX7_becomes, by decide +kernel, ic_mg 868 (by decide +kernel) (by decide +kernel), ic_mg 8 (by decide +kernel) (by decide +kernel), by decide +kernel, by decide +kernel, by decide +kernel⟩, ic_mg 867 (by decide +kernel) (by decide +kernel), ic_mp 8 (by decide +kernel) (by decide +kernel)⟩
theorem okX7_ones : ic_oks mX7_ones 1 := ⟨⟨odX7_ones, by decide +kernel, ic_mg 928 (by decide +kernel) (by decide +kernel), ic_mg 8 (by decide +kernel) (by decide +kernel), by decide +kernel, by decide +kernel, by decide +kernel⟩, ic_mg 927 (by decide +kernel) (by decide +kernel)⟩
theorem okX7_size : ic_oks mX7_size 1 := ⟨⟨odX7_size, by decide +kernel, ic_mg 914 (by decide +kernel) (by decide +kernel), ic_mg 8 (by decide +kernel) (by decide +kernel), by decide +kernel, by decide +kernel, by decide +kernel⟩, ic_mg 913 (by decide +kernel) (by decide +kernel)⟩
theorem okX7_isTaken : ic_okv mX7_isTaken 1 := ⟨⟨odX7_isTaken, by decide +kernel, ic_mg 925 (by decide +kernel) (by decide +kernel), ic_mg 8 (by decide +kernel) (by decide +kernel), by decide +kernel, by decide +kernel, by decide +kernel⟩, ic_mg 924 (by decide +kernel) (by decide +kernel), ic_mp 17 (by decide +kernel) (by decide +kernel)⟩
theorem okX7_far : ic_okv mX7_far 1 := ⟨⟨odX7_far, by decide +kernel, ic_mg 907 (by decide +kernel) (by decide +kernel), ic_mg 8 (by decide +kernel) (by decide +kernel), by decide +kernel, by decide +kernel, by decide +kernel⟩, ic_mg 906 (by decide +kernel) (by decide +kernel), ic_mp 14 (by decide +kernel) (by decide +kernel)⟩
theorem okX7_lying : ic_okv mX7_lying 1 := ⟨⟨odX7_lying, by decide +kernel, ic_mg 921 (by decide +kernel) (by decide +kernel), ic_mg 8 (by decide +kernel) (by decide +kernel), by decide +kernel, by decide +kernel, by decide +kernel⟩, ic_mg 920 (by decide +kernel) (by decide +kernel), ic_mp 16 (by decide +kernel) (by decide +kernel)⟩
theorem okX7_feels : ic_okv mX7_feels 1 := ⟨⟨odX7_feels, by decide +kernel, ic_mg 903 (by decide +kernel) (by decide +kernel), ic_mg 8 (by decide +kernel) (by decide +kernel), by decide +kernel, by decide +kernel, by decide +kernel⟩, ic_mg 902 (by decide +kernel) (by decide +kernel), ic_mp 13 (by decide +kernel) (by decide +kernel)⟩
theorem okX7_steps : ic_okv mX7_steps 1 := ⟨⟨odX7_steps, by decide +kernel, ic_mg 932 (by decide +kernel) (by decide +kernel), ic_mg 8 (by decide +kernel) (by decide +kernel), by decide +kernel, by decide +kernel, by decide +kernel⟩, ic_mg 931 (by decide +kernel) (by decide +kernel), ic_mp 18 (by decide +kernel) (by decide +kernel)⟩
theorem okX7_isLiked : ic_okv mX7_isLiked 1 := ⟨⟨odX7_isLiked, by decide +kernel, ic_mg 936 (by decide +kernel) (by decide +kernel), ic_mg 8 (by decide +kernel) (by decide +kernel), by decide +kernel, by decide +kernel, by decide +kernel⟩, ic_mg 935 (by decide +kernel) (by decide +kernel), ic_mp 19 (by decide +kernel) (by decide +kernel)⟩
theorem okX7_rests : ic_okv mX7_rests 1 := ⟨⟨odX7_rests, by decide +kernel, ic_mg 940 (by decide +kernel) (by decide +kernel), ic_mg 8 (by decide +kernel) (by decide +kernel), by decide +kernel, by decide +kernel, by decide +kernel⟩, ic_mg 939 (by decide +kernel) (by decide +kernel), ic_mp 20 (by decide +kernel) (by decide +kernel)⟩
theorem okX7_turns : ic_okv mX7_turns 0 := ⟨⟨odX7_turns, by decide +kernel, ic_mg 976 (by decide +kernel) (by decide +kernel), ic_mg 8 (by decide +kernel) (by decide +kernel), by decide +kernel, by decide +kernel, by decide +kernel⟩, ic_mg 975 (by decide +kernel) (by decide +kernel), ic_mp 24 (by decide +kernel) (by decide +kernel)⟩
theorem okX7_cartGoes : ic_okv mX7_cartGoes 0 := ⟨⟨odX7_cartGoes, by decide +kernel, ic_mg 972 (by decide +kernel) (by decide +kernel), ic_mg 8 (by decide +kernel) (by decide +kernel), by decide +kernel, by decide +kernel, by decide +kernel⟩, ic_mg 971 (by decide +kernel) (by decide +kernel), ic_mp 23 (by decide +kernel) (by decide +kernel)⟩
theorem okX7_pulls : ic_okv mX7_pulls 1 := ⟨⟨odX7_pulls, by decide +kernel, ic_mg 980 (by decide +kernel) (by decide +kernel), ic_mg 8 (by decide +kernel) (by decide +kernel), by decide +kernel, by decide +kernel, by decide +kernel⟩, ic_mg 979 (by decide +kernel) (by decide +kernel), ic_mp 25 (by decide +kernel) (by decide +kernel)⟩
theorem okX7_callGoes : ic_okv mX7_callGoes 0 := ⟨⟨odX7_callGoes, by decide +kernel, ic_mg 968 (by decide +kernel) (by decide +kernel), ic_mg 8 (by decide +kernel) (by decide +kernel), by decide +kernel, by decide +kernel, by decide +kernel⟩, ic_mg 967 (by decide +kernel) (by decide +kernel), ic_mp 22 (by decide +kernel) (by decide +kernel)⟩
theorem okX7_callsGo : ic_okv mX7_callsGo 1 := ⟨⟨odX7_callsGo, by decide +kernel, ic_mg 964 (by decide +kernel) (by decide +kernel), ic_mg 8 (by decide +kernel) (by decide +kernel), by decide +kernel, by decide +kernel, by decide +kernel⟩, ic_mg 963 (by decide +kernel) (by decide +kernel), ic_mp 21 (by decide +kernel) (by decide +kernel)⟩
theorem okX7_sumOf : ic_okv mX7_sumOf 1 := ⟨⟨odX7_sumOf, by decide +kernel, ic_mg 992 (by decide +kernel) (by decide +kernel), ic_mg 8 (by decide +kernel) (by decide +kernel), by decide +kernel, by decide +kernel, by decide +kernel⟩, ic_mg 991 (by decide +kernel) (by decide +kernel), ic_mp 27 (by decide +kernel) (by decide +kernel)⟩
theorem okX7_setOf : ic_okv mX7_setOf 1 := ⟨⟨odX7_setOf, by decide +kernel, ic_mg 984 (by decide +kernel) (by decide +kernel), ic_mg 8 (by decide +kernel) (by decide +kernel), by decide +kernel, by decide +kernel, by decide +kernel⟩, ic_mg 983 (by decide +kernel) (by decide +kernel), ic_mp 26 (by decide +kernel) (by decide +kernel)⟩
theorem okX7_heavyTaken : ic_okv mX7_heavyTaken 0 := ⟨⟨odX7_heavyTaken, by decide +kernel, ic_mg 996 (by decide +kernel) (by decide +kernel), ic_mg 8 (by decide +kernel) (by decide +kernel), by decide +kernel, by decide +kernel, by decide +kernel⟩, ic_mg 995 (by decide +kernel) (by decide +kernel), ic_mp 28 (by decide +kernel) (by decide +kernel)⟩
theorem okX7_isSet : ic_oks mX7_isSet 2 := ⟨⟨odX7_isSet, by decide +kernel, ic_mg 855 (by decide +kernel) (by decide +kernel), ic_mg 8 (by decide +kernel) (by decide +kernel), by decide +kernel, by decide +kernel, by decide +kernel⟩, ic_mg 854 (by decide +kernel) (by decide +kernel)⟩
theorem okX7_set : ic_okv mX7_set 2 := ⟨⟨odX7_set, by decide +kernel, ic_mg 852 (by decide +kernel) (by decide +kernel), ic_mg 8 (by decide +kernel) (by decide +kernel), by decide +kernel, by decide +kernel, by decide +kernel⟩, ic_mg 850 (by decide +kernel) (by decide +kernel), ic_mg 851 (by decide +kernel) (by decide +kernel)⟩
theorem okX7_cart : ic_okv mX7_cart 1 := ⟨⟨odX7_cart, by decide +kernel, ic_mg 877 (by decide +kernel) (by decide +kernel), ic_mg 8 (by decide +kernel) (by decide +kernel), by decide +kernel, by decide +kernel, by decide +kernel⟩, ic_mg 875 (by decide +kernel) (by decide +kernel), ic_mg 876 (by decide +kernel) (by decide +kernel)⟩
theorem okX7_comes : ic_okv mX7_comes 2 := ⟨⟨odX7_comes, by decide +kernel, ic_mg 886 (by decide +kernel) (by decide +kernel), ic_mg 8 (by decide +kernel) (by decide +kernel), by decide +kernel, by decide +kernel, by decide +kernel⟩, ic_mg 885 (by decide +kernel) (by decide +kernel), ic_mp 10 (by decide +kernel) (by decide +kernel)⟩
theorem okX7_thing : ic_okv mX7_thing 2 := ⟨⟨odX7_thing, by decide +kernel, ic_mg 881 (by decide +kernel) (by decide +kernel), ic_mg 8 (by decide +kernel) (by decide +kernel), by decide +kernel, by decide +kernel, by decide +kernel⟩, ic_mg 879 (by decide +kernel) (by decide +kernel), ic_mg 880 (by decide +kernel) (by decide +kernel)⟩
theorem okX7_of : ic_okv mX7_of 2 := ⟨⟨odX7_of, by decide +kernel, ic_mg 894 (by decide +kernel) (by decide +kernel), ic_mg 8 (by decide +kernel) (by decide +kernel), by decide +kernel, by decide +kernel, by decide +kernel⟩, ic_mg 892 (by decide +kernel) (by decide +kernel), ic_mg 893 (by decide +kernel) (by decide +kernel)⟩
theorem okX7_isIts : ic_oks mX7_isIts 2 := ⟨⟨odX7_isIts, by decide +kernel, ic_mg 947 (by decide +kernel) (by decide +kernel), ic_mg 8 (by decide +kernel) (by decide +kernel), by decide +kernel, by decide +kernel, by decide +kernel⟩, ic_mg 946 (by decide +kernel) (by decide +kernel)⟩
theorem okX7_change : ic_okv mX7_change 3 := ⟨⟨odX7_change, by decide +kernel, ic_mg 944 (by decide +kernel) (by decide +kernel), ic_mg 8 (by decide +kernel) (by decide +kernel), by decide +kernel, by decide +kernel, by decide +kernel⟩, ic_mg 942 (by decide +kernel) (by decide +kernel), ic_mg 943 (by decide +kernel) (by decide +kernel)⟩
theorem okX7_who : ic_okv mX7_who 1 := ⟨⟨odX7_who, by decide +kernel, ic_mg 954 (by decide +kernel) (by decide +kernel), ic_mg 8 (by decide +kernel) (by decide +kernel), by decide +kernel, by decide +kernel, by decide +kernel⟩, ic_mg 952 (by decide +kernel) (by decide +kernel), ic_mg 953 (by decide +kernel) (by decide +kernel)⟩
theorem okX7_go : ic_okv mX7_go 1 := ⟨⟨odX7_go, by decide +kernel, ic_mg 958 (by decide +kernel) (by decide +kernel), ic_mg 8 (by decide +kernel) (by decide +kernel), by decide +kernel, by decide +kernel, by decide +kernel⟩, ic_mg 956 (by decide +kernel) (by decide +kernel), ic_mg 957 (by decide +kernel) (by decide +kernel)⟩
theorem okX7_strongest : ic_okv mX7_strongest 0 := ⟨⟨odX7_strongest, by decide +kernel, ic_mg 1000 (by decide +kernel) (by decide +kernel), ic_mg 8 (by decide +kernel) (by decide +kernel), by decide +kernel, by decide +kernel, by decide +kernel⟩, ic_mg 999 (by decide +kernel) (by decide +kernel), ic_mp 29 (by decide +kernel) (by decide +kernel)⟩
theorem okX7_cells : ic_okv mX7_cells 0 := ⟨⟨odX7_cells, by decide +kernel, ic_mg 1004 (by decide +kernel) (by decide +kernel), ic_mg 8 (by decide +kernel) (by decide +kernel), by decide +kernel, by decide +kernel, by decide +kernel⟩, ic_mg 1003 (by decide +kernel) (by decide +kernel), ic_mp 30 (by decide +kernel) (by decide +kernel)⟩
theorem okX7_now : ic_okv mX7_now 1 := ⟨⟨odX7_now, by decide +kernel, ic_mg 988 (by decide +kernel) (by decide +kernel), ic_mg 8 (by decide +kernel) (by decide +kernel), by decide +kernel, by decide +kernel, by decide +kernel⟩, ic_mg 986 (by decide +kernel) (by decide +kernel), ic_mg 987 (by decide +kernel) (by decide +kernel)⟩
theorem okX7_behind : ic_okv mX7_behind 2 := ⟨⟨odX7_behind, by decide +kernel, ic_mg 1016 (by decide +kernel) (by decide +kernel), ic_mg 8 (by decide +kernel) (by decide +kernel), by decide +kernel, by decide +kernel, by decide +kernel⟩, ic_mg 1015 (by decide +kernel) (by decide +kernel), ic_mp 31 (by decide +kernel) (by decide +kernel)⟩
theorem okX7_ahead : ic_okv mX7_ahead 3 := ⟨⟨odX7_ahead, by decide +kernel, ic_mg 1008 (by decide +kernel) (by decide +kernel), ic_mg 8 (by decide +kernel) (by decide +kernel), by decide +kernel, by decide +kernel, by decide +kernel⟩, ic_mg 1006 (by decide +kernel) (by decide +kernel), ic_mg 1007 (by decide +kernel) (by decide +kernel)⟩
theorem okX7_where : ic_okv mX7_where 1 := ⟨⟨odX7_where, by decide +kernel, ic_mg 1020 (by decide +kernel) (by decide +kernel), ic_mg 8 (by decide +kernel) (by decide +kernel), by decide +kernel, by decide +kernel, by decide +kernel⟩, ic_mg 1018 (by decide +kernel) (by decide +kernel), ic_mg 1019 (by decide +kernel) (by decide +kernel)⟩
theorem okX7_firstOf : ic_okv mX7_firstOf 3 := ⟨⟨odX7_firstOf, by decide +kernel, ic_mg 1028 (by decide +kernel) (by decide +kernel), ic_mg 8 (by decide +kernel) (by decide +kernel), by decide +kernel, by decide +kernel, by decide +kernel⟩, ic_mg 1027 (by decide +kernel) (by decide +kernel), ic_mp 32 (by decide +kernel) (by decide +kernel)⟩
theorem okX7_taken : ic_okv mX7_taken 1 := ⟨⟨odX7_taken, by decide +kernel, ic_mg 1024 (by decide +kernel) (by decide +kernel), ic_mg 8 (by decide +kernel) (by decide +kernel), by decide +kernel, by decide +kernel, by decide +kernel⟩, ic_mg 1022 (by decide +kernel) (by decide +kernel), ic_mg 1023 (by decide +kernel) (by decide +kernel)⟩
theorem okX7_when : ic_okv mX7_when 2 := ⟨⟨odX7_when, by decide +kernel, ic_mg 1032 (by decide +kernel) (by decide +kernel), ic_mg 8 (by decide +kernel) (by decide +kernel), by decide +kernel, by decide +kernel, by decide +kernel⟩, ic_mg 1030 (by decide +kernel) (by decide +kernel), ic_mg 1031 (by decide +kernel) (by decide +kernel)⟩
theorem okX7_meet : ic_okv mX7_meet 2 := ⟨⟨odX7_meet, by decide +kernel, ic_mg 1036 (by decide +kernel) (by decide +kernel), ic_mg 8 (by decide +kernel) (by decide +kernel), by decide +kernel, by decide +kernel, by decide +kernel⟩, ic_mg 1034 (by decide +kernel) (by decide +kernel), ic_mg 1035 (by decide +kernel) (by decide +kernel)⟩
theorem okX7_strained : ic_okv mX7_strained 2 := ⟨⟨odX7_strained, by decide +kernel, ic_mg 1040 (by decide +kernel) (by decide +kernel), ic_mg 8 (by decide +kernel) (by decide +kernel), by decide +kernel, by decide +kernel, by decide +kernel⟩, ic_mg 1038 (by decide +kernel) (by decide +kernel), ic_mg 1039 (by decide +kernel) (by decide +kernel)⟩
theorem okX7_isShort : ic_oks mX7_isShort 1 := ⟨⟨odX7_isShort, by decide +kernel, ic_mg 1047 (by decide +kernel) (by decide +kernel), ic_mg 8 (by decide +kernel) (by decide +kernel), by decide +kernel, by decide +kernel, by decide +kernel⟩, ic_mg 1046 (by decide +kernel) (by decide +kernel)⟩
theorem okX7_loudFor : ic_okv mX7_loudFor 2 := ⟨⟨odX7_loudFor, by decide +kernel, ic_mg 1044 (by decide +kernel) (by decide +kernel), ic_mg 8 (by decide +kernel) (by decide +kernel), by decide +kernel, by decide +kernel, by decide +kernel⟩, ic_mg 1042 (by decide +kernel) (by decide +kernel), ic_mg 1043 (by decide +kernel) (by decide +kernel)⟩
theorem okX7_startFor : ic_okv mX7_startFor 1 := ⟨⟨odX7_startFor, by decide +kernel, ic_mg 1051 (by decide +kernel) (by decide +kernel), ic_mg 8 (by decide +kernel) (by decide +kernel), by decide +kernel, by decide +kernel, by decide +kernel⟩, ic_mg 1049 (by decide +kernel) (by decide +kernel), ic_mg 1050 (by decide +kernel) (by decide +kernel)⟩
theorem okX7_bestOf : ic_okv mX7_bestOf 4 := ⟨⟨odX7_bestOf, by decide +kernel, ic_mg 1059 (by decide +kernel) (by decide +kernel), ic_mg 8 (by decide +kernel) (by decide +kernel), by decide +kernel, by decide +kernel, by decide +kernel⟩, ic_mg 1058 (by decide +kernel) (by decide +kernel), ic_mp 33 (by decide +kernel) (by decide +kernel)⟩
theorem okX7_layFor : ic_okv mX7_layFor 2 := ⟨⟨odX7_layFor, by decide +kernel, ic_mg 1055 (by decide +kernel) (by decide +kernel), ic_mg 8 (by decide +kernel) (by decide +kernel), by decide +kernel, by decide +kernel, by decide +kernel⟩, ic_mg 1053 (by decide +kernel) (by decide +kernel), ic_mg 1054 (by decide +kernel) (by decide +kernel)⟩
theorem okX7_kindFor : ic_okv mX7_kindFor 2 := ⟨⟨odX7_kindFor, by decide +kernel, ic_mg 1063 (by decide +kernel) (by decide +kernel), ic_mg 8 (by decide +kernel) (by decide +kernel), by decide +kernel, by decide +kernel, by decide +kernel⟩, ic_mg 1061 (by decide +kernel) (by decide +kernel), ic_mg 1062 (by decide +kernel) (by decide +kernel)⟩
theorem okX7_heavyFor : ic_okv mX7_heavyFor 2 := ⟨⟨odX7_heavyFor, by decide +kernel, ic_mg 1067 (by decide +kernel) (by decide +kernel), ic_mg 8 (by decide +kernel) (by decide +kernel), by decide +kernel, by decide +kernel, by decide +kernel⟩, ic_mg 1065 (by decide +kernel) (by decide +kernel), ic_mg 1066 (by decide +kernel) (by decide +kernel)⟩
theorem okX7_holdFast : ic_okv mX7_holdFast 1 := ⟨⟨odX7_holdFast, by decide +kernel, ic_mg 1071 (by decide +kernel) (by decide +kernel), ic_mg 8 (by decide +kernel) (by decide +kernel), by decide +kernel, by decide +kernel, by decide +kernel⟩, ic_mg 1069 (by decide +kernel) (by decide +kernel), ic_mg 1070 (by decide +kernel) (by decide +kernel)⟩
theorem okX7_whyNot : ic_okv mX7_whyNot 2 := ⟨⟨odX7_whyNot, by decide +kernel, ic_mg 1079 (by decide +kernel) (by decide +kernel), ic_mg 8 (by decide +kernel) (by decide +kernel), by decide +kernel, by decide +kernel, by decide +kernel⟩, ic_mg 1078 (by decide +kernel) (by decide +kernel), ic_mp 34 (by decide +kernel) (by decide +kernel)⟩
theorem okX7_fitting : ic_okv mX7_fitting 5 := ⟨⟨odX7_fitting, by decide +kernel, ic_mg 1090 (by decide +kernel) (by decide +kernel), ic_mg 8 (by decide +kernel) (by decide +kernel), by decide +kernel, by decide +kernel, by decide +kernel⟩, ic_mg 1089 (by decide +kernel) (by decide +kernel), ic_mp 36 (by decide +kernel) (by decide +kernel)⟩
theorem okX7_fits : ic_okv mX7_fits 2 := ⟨⟨odX7_fits, by decide +kernel, ic_mg 1075 (by decide +kernel) (by decide +kernel), ic_mg 8 (by decide +kernel) (by decide +kernel), by decide +kernel, by decide +kernel, by decide +kernel⟩, ic_mg 1073 (by decide +kernel) (by decide +kernel), ic_mg 1074 (by decide +kernel) (by decide +kernel)⟩
theorem okX7_kinds : ic_okv mX7_kinds 2 := ⟨⟨odX7_kinds, by decide +kernel, ic_mg 1094 (by decide +kernel) (by decide +kernel), ic_mg 8 (by decide +kernel) (by decide +kernel), by decide +kernel, by decide +kernel, by decide +kernel⟩, ic_mg 1092 (by decide +kernel) (by decide +kernel), ic_mg 1093 (by decide +kernel) (by decide +kernel)⟩
theorem okX7_draw : ic_okv mX7_draw 0 := ⟨⟨odX7_draw, by decide +kernel, ic_mg 1102 (by decide +kernel) (by decide +kernel), ic_mg 8 (by decide +kernel) (by decide +kernel), by decide +kernel, by decide +kernel, by decide +kernel⟩, ic_mg 1101 (by decide +kernel) (by decide +kernel), ic_mp 37 (by decide +kernel) (by decide +kernel)⟩
theorem okX7_calls : ic_okv mX7_calls 1 := ⟨⟨odX7_calls, by decide +kernel, ic_mg 1098 (by decide +kernel) (by decide +kernel), ic_mg 8 (by decide +kernel) (by decide +kernel), by decide +kernel, by decide +kernel, by decide +kernel⟩, ic_mg 1096 (by decide +kernel) (by decide +kernel), ic_mg 1097 (by decide +kernel) (by decide +kernel)⟩
theorem okX7_odds : ic_okv mX7_odds 4 := ⟨⟨odX7_odds, by decide +kernel, ic_mg 1107 (by decide +kernel) (by decide +kernel), ic_mg 8 (by decide +kernel) (by decide +kernel), by decide +kernel, by decide +kernel, by decide +kernel⟩, ic_mg 1105 (by decide +kernel) (by decide +kernel), ic_mg 1106 (by decide +kernel) (by decide +kernel)⟩
theorem okX7_seed : ic_okv mX7_seed 1 := ⟨⟨odX7_seed, by decide +kernel, ic_mg 1111 (by decide +kernel) (by decide +kernel), ic_mg 8 (by decide +kernel) (by decide +kernel), by decide +kernel, by decide +kernel, by decide +kernel⟩, ic_mg 1109 (by decide +kernel) (by decide +kernel), ic_mg 1110 (by decide +kernel) (by decide +kernel)⟩
theorem okX7_feed : ic_okv mX7_feed 2 := ⟨⟨odX7_feed, by decide +kernel, ic_mg 1115 (by decide +kernel) (by decide +kernel), ic_mg 8 (by decide +kernel) (by decide +kernel), by decide +kernel, by decide +kernel, by decide +kernel⟩, ic_mg 1113 (by decide +kernel) (by decide +kernel), ic_mg 1114 (by decide +kernel) (by decide +kernel)⟩
theorem okX7_wipe : ic_okv mX7_wipe 0 := ⟨⟨odX7_wipe, by decide +kernel, ic_mg 1120 (by decide +kernel) (by decide +kernel), ic_mg 8 (by decide +kernel) (by decide +kernel), by decide +kernel, by decide +kernel, by decide +kernel⟩, ic_mg 1118 (by decide +kernel) (by decide +kernel), ic_mg 1119 (by decide +kernel) (by decide +kernel)⟩
theorem okX7_letter : ic_oks mX7_letter 1 := ⟨⟨odX7_letter, by decide +kernel, ic_mg 1139 (by decide +kernel) (by decide +kernel), ic_mg 8 (by decide +kernel) (by decide +kernel), by decide +kernel, by decide +kernel, by decide +kernel⟩, ic_mg 1138 (by decide +kernel) (by decide +kernel)⟩
theorem okX7_isDigit : ic_oks mX7_isDigit 1 := ⟨⟨odX7_isDigit, by decide +kernel, ic_mg 1144 (by decide +kernel) (by decide +kernel), ic_mg 8 (by decide +kernel) (by decide +kernel), by decide +kernel, by decide +kernel, by decide +kernel⟩, ic_mg 1143 (by decide +kernel) (by decide +kernel)⟩
theorem okX7_byteAt : ic_okv mX7_byteAt 1 := ⟨⟨odX7_byteAt, by decide +kernel, ic_mg 1136 (by decide +kernel) (by decide +kernel), ic_mg 8 (by decide +kernel) (by decide +kernel), by decide +kernel, by decide +kernel, by decide +kernel⟩, ic_mg 1135 (by decide +kernel) (by decide +kernel), ic_mp 40 (by decide +kernel) (by decide +kernel)⟩
theorem okX7_next : ic_okv mX7_next 0 := ⟨⟨odX7_next, by decide +kernel, ic_mg 1132 (by decide +kernel) (by decide +kernel), ic_mg 8 (by decide +kernel) (by decide +kernel), by decide +kernel, by decide +kernel, by decide +kernel⟩, ic_mg 1131 (by decide +kernel) (by decide +kernel), ic_mp 39 (by decide +kernel) (by decide +kernel)⟩
theorem okX7_wrongHere : ic_okv mX7_wrongHere 0 := ⟨⟨odX7_wrongHere, by decide +kernel, ic_mg 1173 (by decide +kernel) (by decide +kernel), ic_mg 8 (by decide +kernel) (by decide +kernel), by decide +kernel, by decide +kernel, by decide +kernel⟩, ic_mg 1172 (by decide +kernel) (by decide +kernel), ic_mp 45 (by decide +kernel) (by decide +kernel)⟩
theorem okX7_isWord : ic_okv mX7_isWord 1 := ⟨⟨odX7_isWord, by decide +kernel, ic_mg 1159 (by decide +kernel) (by decide +kernel), ic_mg 8 (by decide +kernel) (by decide +kernel), by decide +kernel, by decide +kernel, by decide +kernel⟩, ic_mg 1158 (by decide +kernel) (by decide +kernel), ic_mp 43 (by decide +kernel) (by decide +kernel)⟩
theorem okX7_kindHere : ic_okv mX7_kindHere 0 := ⟨⟨odX7_kindHere, by decide +kernel, ic_mg 1154 (by decide +kernel) (by decide +kernel), ic_mg 8 (by decide +kernel) (by decide +kernel), by decide +kernel, by decide +kernel, by decide +kernel⟩, ic_mg 1153 (by decide +kernel) (by decide +kernel), ic_mp 42 (by decide +kernel) (by decide +kernel)⟩
theorem okX7_numberHere : ic_okv mX7_numberHere 2 := ⟨⟨odX7_numberHere, by decide +kernel, ic_mg 1182 (by decide +kernel) (by decide +kernel), ic_mg 8 (by decide +kernel) (by decide +kernel), by decide +kernel, by decide +kernel, by decide +kernel⟩, ic_mg 1181 (by decide +kernel) (by decide +kernel), ic_mp 47 (by decide +kernel) (by decide +kernel)⟩
theorem okX7_perhaps : ic_okv mX7_perhaps 4 := ⟨⟨odX7_perhaps, by decide +kernel, ic_mg 1178 (by decide +kernel) (by decide +kernel), ic_mg 8 (by decide +kernel) (by decide +kernel), by decide +kernel, by decide +kernel, by decide +kernel⟩, ic_mg 1177 (by decide +kernel) (by decide +kernel), ic_mp 46 (by decide +kernel) (by decide +kernel)⟩
theorem okX7_thingHere : ic_okv mX7_thingHere 1 := ⟨⟨odX7_thingHere, by decide +kernel, ic_mg 1169 (by decide +kernel) (by decide +kernel), ic_mg 8 (by decide +kernel) (by decide +kernel), by decide +kernel, by decide +kernel, by decide +kernel⟩, ic_mg 1168 (by decide +kernel) (by decide +kernel), ic_mp 44 (by decide +kernel) (by decide +kernel)⟩
theorem okX7_cartHere : ic_okv mX7_cartHere 0 := ⟨⟨odX7_cartHere, by decide +kernel, ic_mg 1190 (by decide +kernel) (by decide +kernel), ic_mg 8 (by decide +kernel) (by decide +kernel), by decide +kernel, by decide +kernel, by decide +kernel⟩, ic_mg 1189 (by decide +kernel) (by decide +kernel), ic_mp 48 (by decide +kernel) (by decide +kernel)⟩
theorem okX7_item : ic_okv mX7_item 0 := ⟨⟨odX7_item, by decide +kernel, ic_mg 1150 (by decide +kernel) (by decide +kernel), ic_mg 8 (by decide +kernel) (by decide +kernel), by decide +kernel, by decide +kernel, by decide +kernel⟩, ic_mg 1149 (by decide +kernel) (by decide +kernel), ic_mp 41 (by decide +kernel) (by decide +kernel)⟩
theorem okX7_items : ic_okv mX7_items 0 := ⟨⟨odX7_items, by decide +kernel, ic_mg 1128 (by decide +kernel) (by decide +kernel), ic_mg 8 (by decide +kernel) (by decide +kernel), by decide +kernel, by decide +kernel, by decide +kernel⟩, ic_mg 1127 (by decide +kernel) (by decide +kernel), ic_mp 38 (by decide +kernel) (by decide +kernel)⟩
theorem okX7_text : ic_okv mX7_text 0 := ⟨⟨odX7_text, by decide +kernel, ic_mg 1124 (by decide +kernel) (by decide +kernel), ic_mg 8 (by decide +kernel) (by decide +kernel), by decide +kernel, by decide +kernel, by decide +kernel⟩, ic_mg 1122 (by decide +kernel) (by decide +kernel), ic_mg 1123 (by decide +kernel) (by decide +kernel)⟩
theorem okX7_hold : ic_okv mX7_hold 2 := ⟨⟨odX7_hold, by decide +kernel, ic_mg 1197 (by decide +kernel) (by decide +kernel), ic_mg 8 (by decide +kernel) (by decide +kernel), by decide +kernel, by decide +kernel, by decide +kernel⟩, ic_mg 1195 (by decide +kernel) (by decide +kernel), ic_mg 1196 (by decide +kernel) (by decide +kernel)⟩
theorem okX7_above : ic_oks mX7_above 1 := ⟨⟨odX7_above, by decide +kernel, ic_mg 1206 (by decide +kernel) (by decide +kernel), ic_mg 8 (by decide +kernel) (by decide +kernel), by decide +kernel, by decide +kernel, by decide +kernel⟩, ic_mg 1205 (by decide +kernel) (by decide +kernel)⟩
theorem okX7_as : ic_okv mX7_as 2 := ⟨⟨odX7_as, by decide +kernel, ic_mg 1203 (by decide +kernel) (by decide +kernel), ic_mg 8 (by decide +kernel) (by decide +kernel), by decide +kernel, by decide +kernel, by decide +kernel⟩, ic_mg 1201 (by decide +kernel) (by decide +kernel), ic_mg 1202 (by decide +kernel) (by decide +kernel)⟩
theorem okX7_isSheet : ic_oks mX7_isSheet 1 := ⟨⟨odX7_isSheet, by decide +kernel, ic_mg 1086 (by decide +kernel) (by decide +kernel), ic_mg 8 (by decide +kernel) (by decide +kernel), by decide +kernel, by decide +kernel, by decide +kernel⟩, ic_mg 1085 (by decide +kernel) (by decide +kernel)⟩
theorem okX7_sheet : ic_okv mX7_sheet 3 := ⟨⟨odX7_sheet, by decide +kernel, ic_mg 1210 (by decide +kernel) (by decide +kernel), ic_mg 8 (by decide +kernel) (by decide +kernel), by decide +kernel, by decide +kernel, by decide +kernel⟩, ic_mg 1208 (by decide +kernel) (by decide +kernel), ic_mg 1209 (by decide +kernel) (by decide +kernel)⟩
theorem okX7_whyNone : ic_okv mX7_whyNone 1 := ⟨⟨odX7_whyNone, by decide +kernel, ic_mg 1083 (by decide +kernel) (by decide +kernel), ic_mg 8 (by decide +kernel) (by decide +kernel), by decide +kernel, by decide +kernel, by decide +kernel⟩, ic_mg 1082 (by decide +kernel) (by decide +kernel), ic_mp 35 (by decide +kernel) (by decide +kernel)⟩
theorem okX7_write : ic_okv mX7_write 3 := ⟨⟨odX7_write, by decide +kernel, ic_mg 1214 (by decide +kernel) (by decide +kernel), ic_mg 8 (by decide +kernel) (by decide +kernel), by decide +kernel, by decide +kernel, by decide +kernel⟩, ic_mg 1212 (by decide +kernel) (by decide +kernel), ic_mg 1213 (by decide +kernel) (by decide +kernel)⟩
theorem okX7_copy : ic_okv mX7_copy 5 := ⟨⟨odX7_copy, by decide +kernel, ic_mg 1218 (by decide +kernel) (by decide +kernel), ic_mg 8 (by decide +kernel) (by decide +kernel), by decide +kernel, by decide +kernel, by decide +kernel⟩, ic_mg 1216 (by decide +kernel) (by decide +kernel), ic_mg 1217 (by decide +kernel) (by decide +kernel)⟩
theorem okX7_load : ic_okv mX7_load 1 := ⟨⟨odX7_load, by decide +kernel, ic_mg 1222 (by decide +kernel) (by decide +kernel), ic_mg 8 (by decide +kernel) (by decide +kernel), by decide +kernel, by decide +kernel, by decide +kernel⟩, ic_mg 1220 (by decide +kernel) (by decide +kernel), ic_mg 1221 (by decide +kernel) (by decide +kernel)⟩
theorem okX7_judge : ic_okv mX7_judge 1 := ⟨⟨odX7_judge, by decide +kernel, ic_mg 1226 (by decide +kernel) (by decide +kernel), ic_mg 8 (by decide +kernel) (by decide +kernel), by decide +kernel, by decide +kernel, by decide +kernel⟩, ic_mg 1224 (by decide +kernel) (by decide +kernel), ic_mg 1225 (by decide +kernel) (by decide +kernel)⟩
theorem okX7_image : ic_okv mX7_image 0 := ⟨⟨odX7_image, by decide +kernel, ic_mg 1230 (by decide +kernel) (by decide +kernel), ic_mg 8 (by decide +kernel) (by decide +kernel), by decide +kernel, by decide +kernel, by decide +kernel⟩, ic_mg 1228 (by decide +kernel) (by decide +kernel), ic_mg 1229 (by decide +kernel) (by decide +kernel)⟩
theorem okX7_undo : ic_okv mX7_undo 0 := ⟨⟨odX7_undo, by decide +kernel, ic_mg 1234 (by decide +kernel) (by decide +kernel), ic_mg 8 (by decide +kernel) (by decide +kernel), by decide +kernel, by decide +kernel, by decide +kernel⟩, ic_mg 1232 (by decide +kernel) (by decide +kernel), ic_mg 1233 (by decide +kernel) (by decide +kernel)⟩
theorem okX7_tear : ic_okv mX7_tear 0 := ⟨⟨odX7_tear, by decide +kernel, ic_mg 1238 (by decide +kernel) (by decide +kernel), ic_mg 8 (by decide +kernel) (by decide +kernel), by decide +kernel, by decide +kernel, by decide +kernel⟩, ic_mg 1236 (by decide +kernel) (by decide +kernel), ic_mg 1237 (by decide +kernel) (by decide +kernel)⟩
theorem okX7_holding : ic_okv mX7_holding 0 := ⟨⟨odX7_holding, by decide +kernel, ic_mg 1246 (by decide +kernel) (by decide +kernel), ic_mg 8 (by decide +kernel) (by decide +kernel), by decide +kernel, by decide +kernel, by decide +kernel⟩, ic_mg 1245 (by decide +kernel) (by decide +kernel), ic_mp 49 (by decide +kernel) (by decide +kernel)⟩
theorem okX7_count : ic_okv mX7_count 1 := ⟨⟨odX7_count, by decide +kernel, ic_mg 1242 (by decide +kernel) (by decide +kernel), ic_mg 8 (by decide +kernel) (by decide +kernel), by decide +kernel, by decide +kernel, by decide +kernel⟩, ic_mg 1240 (by decide +kernel) (by decide +kernel), ic_mg 1241 (by decide +kernel) (by decide +kernel)⟩
theorem okX7_status : ic_okv mX7_status 1 := ⟨⟨odX7_status, by decide +kernel, ic_mg 1250 (by decide +kernel) (by decide +kernel), ic_mg 8 (by decide +kernel) (by decide +kernel), by decide +kernel, by decide +kernel, by decide +kernel⟩, ic_mg 1248 (by decide +kernel) (by decide +kernel), ic_mg 1249 (by decide +kernel) (by decide +kernel)⟩
theorem okJ0_length_8abf5 : ic_okv mJ0_length_8abf5 0 := ⟨⟨odJ0_length_8abf5, by decide +kernel, ic_mg 602 (by decide +kernel) (by decide +kernel), ic_mg 11 (by decide +kernel) (by decide +kernel), by decide +kernel, by decide +kernel, by decide +kernel⟩, ic_mg 600 (by decide +kernel) (by decide +kernel), ic_mg 601 (by decide +kernel) (by decide +kernel)⟩
theorem okJ0_coder_7d493 : ic_okv mJ0_coder_7d493 0 := ⟨⟨odJ0_coder_7d493, by decide +kernel, ic_mg 606 (by decide +kernel) (by decide +kernel), ic_mg 11 (by decide +kernel) (by decide +kernel), by decide +kernel, by decide +kernel, by decide +kernel⟩, ic_mg 604 (by decide +kernel) (by decide +kernel), ic_mg 605 (by decide +kernel) (by decide +kernel)⟩
theorem okJ0_charAt_5068e : ic_okv mJ0_charAt_5068e 1 := ⟨⟨odJ0_charAt_5068e, by decide +kernel, ic_mg 612 (by decide +kernel) (by decide +kernel), ic_mg 11 (by decide +kernel) (by decide +kernel), by decide +kernel, by decide +kernel, by decide +kernel⟩, ic_mg 610 (by decide +kernel) (by decide +kernel), ic_mg 611 (by decide +kernel) (by decide +kernel)⟩
theorem okJ0_isLatin1_aae02 : ic_okv mJ0_isLatin1_aae02 0 := ⟨⟨odJ0_isLatin1_aae02, by decide +kernel, ic_mg 616 (by decide +kernel) (by decide +kernel), ic_mg 11 (by decide +kernel) (by decide +kernel), by decide +kernel, by decide +kernel, by decide +kernel⟩, ic_mg 614 (by decide +kernel) (by decide +kernel), ic_mg 615 (by decide +kernel) (by decide +kernel)⟩
theorem okJ0_checkIndex_df160 : ic_oks mJ0_checkIndex_df160 2 := ⟨⟨odJ0_checkIndex_df160, by decide +kernel, ic_mg 622 (by decide +kernel) (by decide +kernel), ic_mg 11 (by decide +kernel) (by decide +kernel), by decide +kernel, by decide +kernel, by decide +kernel⟩, ic_mg 621 (by decide +kernel) (by decide +kernel)⟩
theorem okJ1_charAt_3b067 : ic_oks mJ1_charAt_3b067 2 := ⟨⟨odJ1_charAt_3b067, by decide +kernel, ic_mg 619 (by decide +kernel) (by decide +kernel), ic_mg 12 (by decide +kernel) (by decide +kernel), by decide +kernel, by decide +kernel, by decide +kernel⟩, ic_mg 618 (by decide +kernel) (by decide +kernel)⟩
theorem okJ3_checkIndex_8e157 : ic_oks mJ3_checkIndex_8e157 3 := ⟨⟨odJ3_checkIndex_8e157, by decide +kernel, ic_mg 627 (by decide +kernel) (by decide +kernel), ic_mg 13 (by decide +kernel) (by decide +kernel), by decide +kernel, by decide +kernel, by decide +kernel⟩, ic_mg 626 (by decide +kernel) (by decide +kernel)⟩
theorem okJ6_bitCount_0f7a4 : ic_oks mJ6_bitCount_0f7a4 1 := ⟨⟨odJ6_bitCount_0f7a4, by decide +kernel, ic_mg 279 (by decide +kernel) (by decide +kernel), ic_mg 10 (by decide +kernel) (by decide +kernel), by decide +kernel, by decide +kernel, by decide +kernel⟩, ic_mg 278 (by decide +kernel) (by decide +kernel)⟩
theorem lfX4_9 : Cond.fieldLink "IronCall$Thing" 9 "IronCall$Thing" "number" "I" ∈ lw_gd := ic_mg 37 (by decide +kernel) (by decide +kernel)
theorem lfX2_95 : Cond.fieldLink "IronCall$Street" 95 "IronCall$Thing" "number" "I" ∈ lw_gd := ic_mg 38 (by decide +kernel) (by decide +kernel)
theorem lfX4_15 : Cond.fieldLink "IronCall$Thing" 15 "IronCall$Thing" "kind" "I" ∈ lw_gd := ic_mg 39 (by decide +kernel) (by decide +kernel)
theorem lfX2_85 : Cond.fieldLink "IronCall$Street" 85 "IronCall$Thing" "kind" "I" ∈ lw_gd := ic_mg 40 (by decide +kernel) (by decide +kernel)
theorem lfX4_18 : Cond.fieldLink "IronCall$Thing" 18 "IronCall$Thing" "cell" "I" ∈ lw_gd := ic_mg 41 (by decide +kernel) (by decide +kernel)
theorem lfX2_69 : Cond.fieldLink "IronCall$Street" 69 "IronCall$Thing" "cell" "I" ∈ lw_gd := ic_mg 42 (by decide +kernel) (by decide +kernel)
theorem lfX4_21 : Cond.fieldLink "IronCall$Thing" 21 "IronCall$Thing" "heavy" "I" ∈ lw_gd := ic_mg 43 (by decide +kernel) (by decide +kernel)
theorem lfX2_110 : Cond.fieldLink "IronCall$Street" 110 "IronCall$Thing" "heavy" "I" ∈ lw_gd := ic_mg 44 (by decide +kernel) (by decide +kernel)
theorem lfX4_24 : Cond.fieldLink "IronCall$Thing" 24 "IronCall$Thing" "pulled" "I" ∈ lw_gd := ic_mg 45 (by decide +kernel) (by decide +kernel)
theorem lfX4_27 : Cond.fieldLink "IronCall$Thing" 27 "IronCall$Thing" "moved" "I" ∈ lw_gd := ic_mg 46 (by decide +kernel) (by decide +kernel)
theorem lfX4_30 : Cond.fieldLink "IronCall$Thing" 30 "IronCall$Thing" "isHeld" "Z" ∈ lw_gd := ic_mg 47 (by decide +kernel) (by decide +kernel)
theorem lfX2_140 : Cond.fieldLink "IronCall$Street" 140 "IronCall$Thing" "isHeld" "Z" ∈ lw_gd := ic_mg 48 (by decide +kernel) (by decide +kernel)
theorem lfX4_34 : Cond.fieldLink "IronCall$Thing" 34 "IronCall$Thing" "isTaken" "Z" ∈ lw_gd := ic_mg 49 (by decide +kernel) (by decide +kernel)
theorem lfX2_106 : Cond.fieldLink "IronCall$Street" 106 "IronCall$Thing" "isTaken" "Z" ∈ lw_gd := ic_mg 50 (by decide +kernel) (by decide +kernel)
theorem lfX2_9 : Cond.fieldLink "IronCall$Street" 9 "IronCall$Street" "cell" "I" ∈ lw_gd := ic_mg 68 (by decide +kernel) (by decide +kernel)
theorem lfX6_134 : Cond.fieldLink "IronCall" 134 "IronCall$Street" "cell" "I" ∈ lw_gd := ic_mg 69 (by decide +kernel) (by decide +kernel)
theorem lfX2_15 : Cond.fieldLink "IronCall$Street" 15 "IronCall$Street" "way" "I" ∈ lw_gd := ic_mg 70 (by decide +kernel) (by decide +kernel)
theorem lfX2_18 : Cond.fieldLink "IronCall$Street" 18 "IronCall$Street" "pace" "I" ∈ lw_gd := ic_mg 71 (by decide +kernel) (by decide +kernel)
theorem lfX2_21 : Cond.fieldLink "IronCall$Street" 21 "IronCall$Street" "loud" "I" ∈ lw_gd := ic_mg 72 (by decide +kernel) (by decide +kernel)
theorem lfX2_24 : Cond.fieldLink "IronCall$Street" 24 "IronCall$Street" "callNumber" "I" ∈ lw_gd := ic_mg 73 (by decide +kernel) (by decide +kernel)
theorem lfX6_106 : Cond.fieldLink "IronCall" 106 "IronCall$Street" "callNumber" "I" ∈ lw_gd := ic_mg 74 (by decide +kernel) (by decide +kernel)
theorem lfX2_27 : Cond.fieldLink "IronCall$Street" 27 "IronCall$Street" "z" "I" ∈ lw_gd := ic_mg 75 (by decide +kernel) (by decide +kernel)
theorem lfX6_173 : Cond.fieldLink "IronCall" 173 "IronCall$Street" "z" "I" ∈ lw_gd := ic_mg 76 (by decide +kernel) (by decide +kernel)
theorem lfX2_30 : Cond.fieldLink "IronCall$Street" 30 "IronCall$Street" "made" "I" ∈ lw_gd := ic_mg 77 (by decide +kernel) (by decide +kernel)
theorem lfX6_148 : Cond.fieldLink "IronCall" 148 "IronCall$Street" "made" "I" ∈ lw_gd := ic_mg 78 (by decide +kernel) (by decide +kernel)
theorem lfX2_35 : Cond.fieldLink "IronCall$Street" 35 "IronCall$Street" "things" "[LIronCall$Thing;" ∈ lw_gd := ic_mg 79 (by decide +kernel) (by decide +kernel)
theorem lfX2_42 : Cond.fieldLink "IronCall$Street" 42 "IronCall$Street" "spots" "[I" ∈ lw_gd := ic_mg 80 (by decide +kernel) (by decide +kernel)
theorem lfX3_9 : Cond.fieldLink "IronCall$Tape" 9 "IronCall$Tape" "size" "I" ∈ lw_gd := ic_mg 107 (by decide +kernel) (by decide +kernel)
theorem lfX5_29 : Cond.fieldLink "IronCall$Tokens" 29 "IronCall$Tape" "size" "I" ∈ lw_gd := ic_mg 108 (by decide +kernel) (by decide +kernel)
theorem lfX6_176 : Cond.fieldLink "IronCall" 176 "IronCall$Tape" "size" "I" ∈ lw_gd := ic_mg 109 (by decide +kernel) (by decide +kernel)
theorem lfX3_15 : Cond.fieldLink "IronCall$Tape" 15 "IronCall$Tape" "bytes" "[I" ∈ lw_gd := ic_mg 110 (by decide +kernel) (by decide +kernel)
theorem lfX5_9 : Cond.fieldLink "IronCall$Tokens" 9 "IronCall$Tokens" "tape" "LIronCall$Tape;" ∈ lw_gd := ic_mg 122 (by decide +kernel) (by decide +kernel)
theorem lfX5_15 : Cond.fieldLink "IronCall$Tokens" 15 "IronCall$Tokens" "size" "I" ∈ lw_gd := ic_mg 123 (by decide +kernel) (by decide +kernel)
theorem lfX5_19 : Cond.fieldLink "IronCall$Tokens" 19 "IronCall$Tokens" "sorts" "[I" ∈ lw_gd := ic_mg 124 (by decide +kernel) (by decide +kernel)
theorem lfX5_23 : Cond.fieldLink "IronCall$Tokens" 23 "IronCall$Tokens" "places" "[I" ∈ lw_gd := ic_mg 125 (by decide +kernel) (by decide +kernel)
theorem lfX5_26 : Cond.fieldLink "IronCall$Tokens" 26 "IronCall$Tokens" "values" "[I" ∈ lw_gd := ic_mg 126 (by decide +kernel) (by decide +kernel)
theorem lfX0_9 : Cond.fieldLink "IronCall$Reader" 9 "IronCall$Reader" "tokens" "LIronCall$Tokens;" ∈ lw_gd := ic_mg 144 (by decide +kernel) (by decide +kernel)
theorem lfX0_15 : Cond.fieldLink "IronCall$Reader" 15 "IronCall$Reader" "street" "LIronCall$Street;" ∈ lw_gd := ic_mg 145 (by decide +kernel) (by decide +kernel)
theorem lfX0_19 : Cond.fieldLink "IronCall$Reader" 19 "IronCall$Reader" "next" "I" ∈ lw_gd := ic_mg 146 (by decide +kernel) (by decide +kernel)
theorem lfX0_23 : Cond.fieldLink "IronCall$Reader" 23 "IronCall$Reader" "isFaulty" "Z" ∈ lw_gd := ic_mg 147 (by decide +kernel) (by decide +kernel)
theorem lfX1_9 : Cond.fieldLink "IronCall$Sheet" 9 "IronCall$Sheet" "bits" "I" ∈ lw_gd := ic_mg 164 (by decide +kernel) (by decide +kernel)
theorem lfX6_219 : Cond.fieldLink "IronCall" 219 "IronCall$Sheet" "bits" "I" ∈ lw_gd := ic_mg 165 (by decide +kernel) (by decide +kernel)
theorem lfX1_15 : Cond.fieldLink "IronCall$Sheet" 15 "IronCall$Sheet" "size" "I" ∈ lw_gd := ic_mg 166 (by decide +kernel) (by decide +kernel)
theorem lfX6_211 : Cond.fieldLink "IronCall" 211 "IronCall$Sheet" "size" "I" ∈ lw_gd := ic_mg 167 (by decide +kernel) (by decide +kernel)
theorem lfX1_18 : Cond.fieldLink "IronCall$Sheet" 18 "IronCall$Sheet" "numbers" "[I" ∈ lw_gd := ic_mg 168 (by decide +kernel) (by decide +kernel)
theorem lfX6_225 : Cond.fieldLink "IronCall" 225 "IronCall$Sheet" "numbers" "[I" ∈ lw_gd := ic_mg 169 (by decide +kernel) (by decide +kernel)
theorem lfX6_10 : Cond.fieldLink "IronCall" 10 "IronCall" "street" "LIronCall$Street;" ∈ lw_gd := ic_mg 177 (by decide +kernel) (by decide +kernel)
theorem lfX6_16 : Cond.fieldLink "IronCall" 16 "IronCall" "trial" "LIronCall$Street;" ∈ lw_gd := ic_mg 178 (by decide +kernel) (by decide +kernel)
theorem lfX6_19 : Cond.fieldLink "IronCall" 19 "IronCall" "kept" "LIronCall$Street;" ∈ lw_gd := ic_mg 179 (by decide +kernel) (by decide +kernel)
theorem lfX6_22 : Cond.fieldLink "IronCall" 22 "IronCall" "hasKept" "Z" ∈ lw_gd := ic_mg 180 (by decide +kernel) (by decide +kernel)
theorem lfX6_29 : Cond.fieldLink "IronCall" 29 "IronCall" "tape" "LIronCall$Tape;" ∈ lw_gd := ic_mg 181 (by decide +kernel) (by decide +kernel)
theorem lfX6_38 : Cond.fieldLink "IronCall" 38 "IronCall" "tokens" "LIronCall$Tokens;" ∈ lw_gd := ic_mg 182 (by decide +kernel) (by decide +kernel)
theorem lfX6_47 : Cond.fieldLink "IronCall" 47 "IronCall" "reader" "LIronCall$Reader;" ∈ lw_gd := ic_mg 183 (by decide +kernel) (by decide +kernel)
theorem lfX6_53 : Cond.fieldLink "IronCall" 53 "IronCall" "sheets" "[LIronCall$Sheet;" ∈ lw_gd := ic_mg 184 (by decide +kernel) (by decide +kernel)
theorem lfX6_58 : Cond.fieldLink "IronCall" 58 "IronCall" "findings" "[I" ∈ lw_gd := ic_mg 185 (by decide +kernel) (by decide +kernel)
theorem lfJ0_38 : Cond.fieldLink "java/lang/String" 38 "java/lang/String" "COMPACT_STRINGS" "Z" ∈ lw_gd := ic_mg 607 (by decide +kernel) (by decide +kernel)
theorem lfJ0_1053 : Cond.fieldLink "java/lang/String" 1053 "jdk/internal/util/Preconditions" "SIOOBE_FORMATTER" "Ljava/util/function/BiFunction;" ∈ lw_gd := ic_mg 623 (by decide +kernel) (by decide +kernel)
theorem lfJ2_44 : Cond.fieldLink "java/lang/StringUTF16" 44 "java/lang/StringUTF16" "$assertionsDisabled" "Z" ∈ lw_gd := ic_mg 641 (by decide +kernel) (by decide +kernel)
theorem lfJ2_59 : Cond.fieldLink "java/lang/StringUTF16" 59 "java/lang/StringUTF16" "HI_BYTE_SHIFT" "I" ∈ lw_gd := ic_mg 643 (by decide +kernel) (by decide +kernel)
theorem lfJ2_63 : Cond.fieldLink "java/lang/StringUTF16" 63 "java/lang/StringUTF16" "LO_BYTE_SHIFT" "I" ∈ lw_gd := ic_mg 645 (by decide +kernel) (by decide +kernel)
theorem lfX7_7 : Cond.fieldLink "IronCallModel" 7 "IronCallModel" "d" "[I" ∈ lw_gd := ic_mg 797 (by decide +kernel) (by decide +kernel)
theorem lfX7_13 : Cond.fieldLink "IronCallModel" 13 "IronCallModel" "e" "[I" ∈ lw_gd := ic_mg 798 (by decide +kernel) (by decide +kernel)
theorem lfX7_16 : Cond.fieldLink "IronCallModel" 16 "IronCallModel" "aside" "[I" ∈ lw_gd := ic_mg 799 (by decide +kernel) (by decide +kernel)
theorem lfX7_19 : Cond.fieldLink "IronCallModel" 19 "IronCallModel" "kept" "[I" ∈ lw_gd := ic_mg 800 (by decide +kernel) (by decide +kernel)
theorem lfX7_304 : Cond.fieldLink "IronCallModel" 304 "IronCallModel" "isKept" "Z" ∈ lw_gd := ic_mg 801 (by decide +kernel) (by decide +kernel)
theorem lfX7_22 : Cond.fieldLink "IronCallModel" 22 "IronCallModel" "found" "[I" ∈ lw_gd := ic_mg 802 (by decide +kernel) (by decide +kernel)
theorem lfX7_25 : Cond.fieldLink "IronCallModel" 25 "IronCallModel" "tape" "[B" ∈ lw_gd := ic_mg 803 (by decide +kernel) (by decide +kernel)
theorem lfX7_195 : Cond.fieldLink "IronCallModel" 195 "IronCallModel" "taped" "I" ∈ lw_gd := ic_mg 804 (by decide +kernel) (by decide +kernel)
theorem lfX7_199 : Cond.fieldLink "IronCallModel" 199 "IronCallModel" "at" "I" ∈ lw_gd := ic_mg 805 (by decide +kernel) (by decide +kernel)
theorem lfX7_212 : Cond.fieldLink "IronCallModel" 212 "IronCallModel" "sort" "I" ∈ lw_gd := ic_mg 806 (by decide +kernel) (by decide +kernel)
theorem lfX7_205 : Cond.fieldLink "IronCallModel" 205 "IronCallModel" "from" "I" ∈ lw_gd := ic_mg 807 (by decide +kernel) (by decide +kernel)
theorem lfX7_208 : Cond.fieldLink "IronCallModel" 208 "IronCallModel" "value" "J" ∈ lw_gd := ic_mg 808 (by decide +kernel) (by decide +kernel)
theorem lfX7_229 : Cond.fieldLink "IronCallModel" 229 "IronCallModel" "fault" "I" ∈ lw_gd := ic_mg 809 (by decide +kernel) (by decide +kernel)
theorem lfX7_29 : Cond.fieldLink "IronCallModel" 29 "IronCallModel" "bitsOf" "[I" ∈ lw_gd := ic_mg 810 (by decide +kernel) (by decide +kernel)
theorem lfX7_32 : Cond.fieldLink "IronCallModel" 32 "IronCallModel" "sizeOf" "[I" ∈ lw_gd := ic_mg 811 (by decide +kernel) (by decide +kernel)
theorem lfX7_35 : Cond.fieldLink "IronCallModel" 35 "IronCallModel" "number" "[I" ∈ lw_gd := ic_mg 812 (by decide +kernel) (by decide +kernel)
theorem lfX7_38 : Cond.fieldLink "IronCallModel" 38 "IronCallModel" "passing" "[I" ∈ lw_gd := ic_mg 813 (by decide +kernel) (by decide +kernel)
theorem lfJ0_9 : Cond.fieldLink "java/lang/String" 9 "java/lang/String" "value" "[B" ∈ lw_gd := ic_mg 1251 (by decide +kernel) (by decide +kernel)
theorem lfJ0_15 : Cond.fieldLink "java/lang/String" 15 "java/lang/String" "coder" "B" ∈ lw_gd := ic_mg 1252 (by decide +kernel) (by decide +kernel)
theorem lmL_13 : Cond.methodLink "IronCallLaw" 13 ⟨"IronCall", "set", "(II)I"⟩ ∈ lw_gd := ic_mg 205 (by decide +kernel) (by decide +kernel)
theorem lmX6_62 : Cond.methodLink "IronCall" 62 ⟨"IronCall", "mostOfCart", "(I)I"⟩ ∈ lw_gd := ic_mg 209 (by decide +kernel) (by decide +kernel)
theorem lmX6_66 : Cond.methodLink "IronCall" 66 ⟨"IronCall", "finding", "(I)I"⟩ ∈ lw_gd := ic_mg 212 (by decide +kernel) (by decide +kernel)
theorem lmX6_69 : Cond.methodLink "IronCall" 69 ⟨"IronCall$Street", "cartTold", "(I)I"⟩ ∈ lw_gd := ic_mg 217 (by decide +kernel) (by decide +kernel)
theorem lmX6_72 : Cond.methodLink "IronCall" 72 ⟨"IronCall$Street", "alterCart", "(II)V"⟩ ∈ lw_gd := ic_mg 221 (by decide +kernel) (by decide +kernel)
theorem lmL_18 : Cond.methodLink "IronCallLaw" 18 ⟨"IronCall", "cart", "(I)I"⟩ ∈ lw_gd := ic_mg 225 (by decide +kernel) (by decide +kernel)
theorem lmL_23 : Cond.methodLink "IronCallLaw" 23 ⟨"IronCall", "thing", "(II)I"⟩ ∈ lw_gd := ic_mg 229 (by decide +kernel) (by decide +kernel)
theorem lmX6_76 : Cond.methodLink "IronCall" 76 ⟨"IronCall", "isKind", "(I)Z"⟩ ∈ lw_gd := ic_mg 233 (by decide +kernel) (by decide +kernel)
theorem lmX6_80 : Cond.methodLink "IronCall" 80 ⟨"IronCall", "isCell", "(I)Z"⟩ ∈ lw_gd := ic_mg 236 (by decide +kernel) (by decide +kernel)
theorem lmX6_83 : Cond.methodLink "IronCall" 83 ⟨"IronCall$Street", "addThing", "(II)I"⟩ ∈ lw_gd := ic_mg 239 (by decide +kernel) (by decide +kernel)
theorem lmX2_46 : Cond.methodLink "IronCall$Street" 46 ⟨"IronCall$Street", "thingAt", "(I)LIronCall$Thing;"⟩ ∈ lw_gd := ic_mg 243 (by decide +kernel) (by decide +kernel)
theorem lmX2_62 : Cond.methodLink "IronCall$Street" 62 ⟨"IronCall$Thing", "renew", "(II)V"⟩ ∈ lw_gd := ic_mg 247 (by decide +kernel) (by decide +kernel)
theorem lmL_27 : Cond.methodLink "IronCallLaw" 27 ⟨"IronCall", "of", "(II)I"⟩ ∈ lw_gd := ic_mg 251 (by decide +kernel) (by decide +kernel)
theorem lmX6_87 : Cond.methodLink "IronCall" 87 ⟨"IronCall$Street", "told", "(II)I"⟩ ∈ lw_gd := ic_mg 255 (by decide +kernel) (by decide +kernel)
theorem lmX2_65 : Cond.methodLink "IronCall$Street" 65 ⟨"IronCall$Street", "feltBy", "(LIronCall$Thing;I)I"⟩ ∈ lw_gd := ic_mg 259 (by decide +kernel) (by decide +kernel)
theorem lmX2_70 : Cond.methodLink "IronCall$Street" 70 Lib.Math.abs.name ∈ lw_gd := ic_mg 263 (by decide +kernel) (by decide +kernel)
theorem lmX2_88 : Cond.methodLink "IronCall$Street" 88 ⟨"IronCall$Thing", "feels", "(III)I"⟩ ∈ lw_gd := ic_mg 266 (by decide +kernel) (by decide +kernel)
theorem lmX4_48 : Cond.methodLink "IronCall$Thing" 48 Lib.Math.max.name ∈ lw_gd := ic_mg 270 (by decide +kernel) (by decide +kernel)
theorem lmX2_92 : Cond.methodLink "IronCall$Street" 92 ⟨"IronCall$Street", "thingsAt", "(I)I"⟩ ∈ lw_gd := ic_mg 273 (by decide +kernel) (by decide +kernel)
theorem lmX2_98 : Cond.methodLink "IronCall$Street" 98 ⟨"java/lang/Integer", "bitCount", "(I)I"⟩ ∈ lw_gd := ic_mg 277 (by decide +kernel) (by decide +kernel)
theorem lmX2_75 : Cond.methodLink "IronCall$Street" 75 ⟨"IronCall$Thing", "told", "(I)I"⟩ ∈ lw_gd := ic_mg 283 (by decide +kernel) (by decide +kernel)
theorem lmX4_37 : Cond.methodLink "IronCall$Thing" 37 ⟨"IronCall$Thing", "steps", "()I"⟩ ∈ lw_gd := ic_mg 287 (by decide +kernel) (by decide +kernel)
theorem lmX4_41 : Cond.methodLink "IronCall$Thing" 41 ⟨"IronCall$Thing", "isLiked", "()Z"⟩ ∈ lw_gd := ic_mg 291 (by decide +kernel) (by decide +kernel)
theorem lmX4_45 : Cond.methodLink "IronCall$Thing" 45 ⟨"IronCall$Thing", "rests", "()I"⟩ ∈ lw_gd := ic_mg 295 (by decide +kernel) (by decide +kernel)
theorem lmL_31 : Cond.methodLink "IronCallLaw" 31 ⟨"IronCall", "change", "(III)I"⟩ ∈ lw_gd := ic_mg 299 (by decide +kernel) (by decide +kernel)
theorem lmX6_90 : Cond.methodLink "IronCall" 90 ⟨"IronCall$Street", "hasThing", "(I)Z"⟩ ∈ lw_gd := ic_mg 303 (by decide +kernel) (by decide +kernel)
theorem lmX6_93 : Cond.methodLink "IronCall" 93 ⟨"IronCall", "leastOf", "(I)I"⟩ ∈ lw_gd := ic_mg 307 (by decide +kernel) (by decide +kernel)
theorem lmX6_96 : Cond.methodLink "IronCall" 96 ⟨"IronCall", "mostOf", "(I)I"⟩ ∈ lw_gd := ic_mg 310 (by decide +kernel) (by decide +kernel)
theorem lmX6_99 : Cond.methodLink "IronCall" 99 ⟨"IronCall$Street", "alter", "(III)V"⟩ ∈ lw_gd := ic_mg 313 (by decide +kernel) (by decide +kernel)
theorem lmX2_78 : Cond.methodLink "IronCall$Street" 78 ⟨"IronCall$Thing", "alter", "(II)V"⟩ ∈ lw_gd := ic_mg 317 (by decide +kernel) (by decide +kernel)
theorem lmL_36 : Cond.methodLink "IronCallLaw" 36 ⟨"IronCall", "who", "(I)I"⟩ ∈ lw_gd := ic_mg 321 (by decide +kernel) (by decide +kernel)
theorem lmX6_103 : Cond.methodLink "IronCall" 103 ⟨"IronCall$Street", "thingsAt", "(I)I"⟩ ∈ lw_gd := ic_mg 325 (by decide +kernel) (by decide +kernel)
theorem lmL_40 : Cond.methodLink "IronCallLaw" 40 ⟨"IronCall", "go", "(I)I"⟩ ∈ lw_gd := ic_mg 326 (by decide +kernel) (by decide +kernel)
theorem lmX6_111 : Cond.methodLink "IronCall" 111 ⟨"IronCall$Street", "callTimes", "(I)V"⟩ ∈ lw_gd := ic_mg 331 (by decide +kernel) (by decide +kernel)
theorem lmX2_113 : Cond.methodLink "IronCall$Street" 113 ⟨"IronCall$Street", "rollCart", "()V"⟩ ∈ lw_gd := ic_mg 335 (by decide +kernel) (by decide +kernel)
theorem lmX2_130 : Cond.methodLink "IronCall$Street" 130 ⟨"IronCall$Street", "turnAtEnds", "()V"⟩ ∈ lw_gd := ic_mg 339 (by decide +kernel) (by decide +kernel)
theorem lmX2_116 : Cond.methodLink "IronCall$Street" 116 ⟨"IronCall$Street", "pullThings", "()V"⟩ ∈ lw_gd := ic_mg 343 (by decide +kernel) (by decide +kernel)
theorem lmX2_133 : Cond.methodLink "IronCall$Street" 133 ⟨"IronCall$Thing", "strain", "(II)V"⟩ ∈ lw_gd := ic_mg 347 (by decide +kernel) (by decide +kernel)
theorem lmX4_58 : Cond.methodLink "IronCall$Thing" 58 Lib.Math.min.name ∈ lw_gd := ic_mg 351 (by decide +kernel) (by decide +kernel)
theorem lmX4_61 : Cond.methodLink "IronCall$Thing" 61 Lib.Math.abs.name ∈ lw_gd := ic_mg 354 (by decide +kernel) (by decide +kernel)
theorem lmX2_119 : Cond.methodLink "IronCall$Street" 119 ⟨"IronCall$Street", "takeThings", "()V"⟩ ∈ lw_gd := ic_mg 355 (by decide +kernel) (by decide +kernel)
theorem lmX2_136 : Cond.methodLink "IronCall$Street" 136 ⟨"IronCall$Thing", "isLiked", "()Z"⟩ ∈ lw_gd := ic_mg 359 (by decide +kernel) (by decide +kernel)
theorem lmX2_122 : Cond.methodLink "IronCall$Street" 122 ⟨"IronCall$Street", "restThings", "()V"⟩ ∈ lw_gd := ic_mg 360 (by decide +kernel) (by decide +kernel)
theorem lmX2_143 : Cond.methodLink "IronCall$Street" 143 ⟨"IronCall$Thing", "rest", "()V"⟩ ∈ lw_gd := ic_mg 364 (by decide +kernel) (by decide +kernel)
theorem lmX2_126 : Cond.methodLink "IronCall$Street" 126 Lib.Math.min.name ∈ lw_gd := ic_mg 369 (by decide +kernel) (by decide +kernel)
theorem lmX6_115 : Cond.methodLink "IronCall" 115 ⟨"IronCall$Street", "thingsWith", "(II)I"⟩ ∈ lw_gd := ic_mg 370 (by decide +kernel) (by decide +kernel)
theorem lmL_44 : Cond.methodLink "IronCallLaw" 44 ⟨"IronCall", "now", "(I)I"⟩ ∈ lw_gd := ic_mg 374 (by decide +kernel) (by decide +kernel)
theorem lmX6_118 : Cond.methodLink "IronCall" 118 ⟨"IronCall$Street", "sumOf", "(I)I"⟩ ∈ lw_gd := ic_mg 378 (by decide +kernel) (by decide +kernel)
theorem lmX6_121 : Cond.methodLink "IronCall" 121 ⟨"IronCall$Street", "takenHeavy", "()I"⟩ ∈ lw_gd := ic_mg 382 (by decide +kernel) (by decide +kernel)
theorem lmX6_125 : Cond.methodLink "IronCall" 125 ⟨"IronCall$Street", "mostFeeling", "()I"⟩ ∈ lw_gd := ic_mg 386 (by decide +kernel) (by decide +kernel)
theorem lmX6_128 : Cond.methodLink "IronCall" 128 ⟨"IronCall$Street", "cellsInUse", "()I"⟩ ∈ lw_gd := ic_mg 390 (by decide +kernel) (by decide +kernel)
theorem lmL_48 : Cond.methodLink "IronCallLaw" 48 ⟨"IronCall", "ahead", "(III)I"⟩ ∈ lw_gd := ic_mg 394 (by decide +kernel) (by decide +kernel)
theorem lmX6_131 : Cond.methodLink "IronCall" 131 ⟨"IronCall", "startTrial", "()V"⟩ ∈ lw_gd := ic_mg 398 (by decide +kernel) (by decide +kernel)
theorem lmX6_188 : Cond.methodLink "IronCall" 188 ⟨"IronCall$Street", "match", "(LIronCall$Street;)V"⟩ ∈ lw_gd := ic_mg 402 (by decide +kernel) (by decide +kernel)
theorem lmX2_50 : Cond.methodLink "IronCall$Street" 50 ⟨"IronCall$Thing", "match", "(LIronCall$Thing;)V"⟩ ∈ lw_gd := ic_mg 406 (by decide +kernel) (by decide +kernel)
theorem lmX2_54 : Cond.methodLink "IronCall$Street" 54 ⟨"IronCall$Street", "spotTold", "(I)I"⟩ ∈ lw_gd := ic_mg 410 (by decide +kernel) (by decide +kernel)
theorem lmX2_58 : Cond.methodLink "IronCall$Street" 58 ⟨"IronCall$Street", "putSpot", "(II)V"⟩ ∈ lw_gd := ic_mg 414 (by decide +kernel) (by decide +kernel)
theorem lmL_52 : Cond.methodLink "IronCallLaw" 52 ⟨"IronCall", "where", "(I)I"⟩ ∈ lw_gd := ic_mg 418 (by decide +kernel) (by decide +kernel)
theorem lmL_56 : Cond.methodLink "IronCallLaw" 56 ⟨"IronCall", "taken", "(I)I"⟩ ∈ lw_gd := ic_mg 422 (by decide +kernel) (by decide +kernel)
theorem lmX6_137 : Cond.methodLink "IronCall" 137 ⟨"IronCall", "fewestCalls", "(IIII)I"⟩ ∈ lw_gd := ic_mg 426 (by decide +kernel) (by decide +kernel)
theorem lmL_60 : Cond.methodLink "IronCallLaw" 60 ⟨"IronCall", "when", "(II)I"⟩ ∈ lw_gd := ic_mg 430 (by decide +kernel) (by decide +kernel)
theorem lmL_64 : Cond.methodLink "IronCallLaw" 64 ⟨"IronCall", "meet", "(II)I"⟩ ∈ lw_gd := ic_mg 434 (by decide +kernel) (by decide +kernel)
theorem lmL_68 : Cond.methodLink "IronCallLaw" 68 ⟨"IronCall", "strained", "(II)I"⟩ ∈ lw_gd := ic_mg 438 (by decide +kernel) (by decide +kernel)
theorem lmL_72 : Cond.methodLink "IronCallLaw" 72 ⟨"IronCall", "loudFor", "(II)I"⟩ ∈ lw_gd := ic_mg 442 (by decide +kernel) (by decide +kernel)
theorem lmX6_141 : Cond.methodLink "IronCall" 141 ⟨"IronCall", "isPlanned", "(I)Z"⟩ ∈ lw_gd := ic_mg 446 (by decide +kernel) (by decide +kernel)
theorem lmL_76 : Cond.methodLink "IronCallLaw" 76 ⟨"IronCall", "startFor", "(I)I"⟩ ∈ lw_gd := ic_mg 449 (by decide +kernel) (by decide +kernel)
theorem lmL_80 : Cond.methodLink "IronCallLaw" 80 ⟨"IronCall", "layFor", "(II)I"⟩ ∈ lw_gd := ic_mg 453 (by decide +kernel) (by decide +kernel)
theorem lmX6_144 : Cond.methodLink "IronCall" 144 ⟨"IronCall", "furthestBy", "(III)I"⟩ ∈ lw_gd := ic_mg 457 (by decide +kernel) (by decide +kernel)
theorem lmL_84 : Cond.methodLink "IronCallLaw" 84 ⟨"IronCall", "kindFor", "(II)I"⟩ ∈ lw_gd := ic_mg 461 (by decide +kernel) (by decide +kernel)
theorem lmL_88 : Cond.methodLink "IronCallLaw" 88 ⟨"IronCall", "heavyFor", "(II)I"⟩ ∈ lw_gd := ic_mg 465 (by decide +kernel) (by decide +kernel)
theorem lmL_92 : Cond.methodLink "IronCallLaw" 92 ⟨"IronCall", "holdFast", "(I)I"⟩ ∈ lw_gd := ic_mg 469 (by decide +kernel) (by decide +kernel)
theorem lmX6_151 : Cond.methodLink "IronCall" 151 ⟨"java/lang/Integer", "bitCount", "(I)I"⟩ ∈ lw_gd := ic_mg 473 (by decide +kernel) (by decide +kernel)
theorem lmX6_156 : Cond.methodLink "IronCall" 156 ⟨"IronCall", "savesAll", "(II)Z"⟩ ∈ lw_gd := ic_mg 474 (by decide +kernel) (by decide +kernel)
theorem lmX6_240 : Cond.methodLink "IronCall" 240 ⟨"IronCall$Street", "holdThings", "(I)V"⟩ ∈ lw_gd := ic_mg 478 (by decide +kernel) (by decide +kernel)
theorem lmX2_103 : Cond.methodLink "IronCall$Street" 103 ⟨"IronCall$Street", "alter", "(III)V"⟩ ∈ lw_gd := ic_mg 482 (by decide +kernel) (by decide +kernel)
theorem lmL_96 : Cond.methodLink "IronCallLaw" 96 ⟨"IronCall", "fits", "(II)I"⟩ ∈ lw_gd := ic_mg 483 (by decide +kernel) (by decide +kernel)
theorem lmX6_160 : Cond.methodLink "IronCall" 160 ⟨"IronCall", "choicesAsTold", "(IIII)I"⟩ ∈ lw_gd := ic_mg 487 (by decide +kernel) (by decide +kernel)
theorem lmX6_204 : Cond.methodLink "IronCall" 204 ⟨"IronCall", "sheetAt", "(I)LIronCall$Sheet;"⟩ ∈ lw_gd := ic_mg 491 (by decide +kernel) (by decide +kernel)
theorem lmX6_212 : Cond.methodLink "IronCall" 212 ⟨"IronCall$Sheet", "isMissing", "()Z"⟩ ∈ lw_gd := ic_mg 495 (by decide +kernel) (by decide +kernel)
theorem lmX6_243 : Cond.methodLink "IronCall" 243 ⟨"IronCall", "trialGoesAs", "(LIronCall$Sheet;II)Z"⟩ ∈ lw_gd := ic_mg 499 (by decide +kernel) (by decide +kernel)
theorem lmX6_234 : Cond.methodLink "IronCall" 234 ⟨"IronCall$Sheet", "told", "(I)I"⟩ ∈ lw_gd := ic_mg 503 (by decide +kernel) (by decide +kernel)
theorem lmL_100 : Cond.methodLink "IronCallLaw" 100 ⟨"IronCall", "kinds", "(II)I"⟩ ∈ lw_gd := ic_mg 507 (by decide +kernel) (by decide +kernel)
theorem lmL_104 : Cond.methodLink "IronCallLaw" 104 ⟨"IronCall", "calls", "(I)I"⟩ ∈ lw_gd := ic_mg 511 (by decide +kernel) (by decide +kernel)
theorem lmX6_163 : Cond.methodLink "IronCall" 163 ⟨"IronCall$Street", "draw", "()I"⟩ ∈ lw_gd := ic_mg 515 (by decide +kernel) (by decide +kernel)
theorem lmL_108 : Cond.methodLink "IronCallLaw" 108 ⟨"IronCall", "odds", "(IIII)J"⟩ ∈ lw_gd := ic_mg 520 (by decide +kernel) (by decide +kernel)
theorem lmX6_166 : Cond.methodLink "IronCall" 166 ⟨"IronCall$Street", "cellsToFeel", "(II)I"⟩ ∈ lw_gd := ic_mg 524 (by decide +kernel) (by decide +kernel)
theorem lmX6_169 : Cond.methodLink "IronCall" 169 ⟨"IronCall", "power", "(II)J"⟩ ∈ lw_gd := ic_mg 528 (by decide +kernel) (by decide +kernel)
theorem lmL_113 : Cond.methodLink "IronCallLaw" 113 ⟨"IronCall", "seed", "(I)I"⟩ ∈ lw_gd := ic_mg 531 (by decide +kernel) (by decide +kernel)
theorem lmL_117 : Cond.methodLink "IronCallLaw" 117 ⟨"IronCall", "feed", "(II)I"⟩ ∈ lw_gd := ic_mg 535 (by decide +kernel) (by decide +kernel)
theorem lmX6_179 : Cond.methodLink "IronCall" 179 ⟨"IronCall$Tape", "append", "(I)V"⟩ ∈ lw_gd := ic_mg 539 (by decide +kernel) (by decide +kernel)
theorem lmL_121 : Cond.methodLink "IronCallLaw" 121 ⟨"IronCall", "wipe", "()I"⟩ ∈ lw_gd := ic_mg 543 (by decide +kernel) (by decide +kernel)
theorem lmL_126 : Cond.methodLink "IronCallLaw" 126 ⟨"IronCall", "text", "()I"⟩ ∈ lw_gd := ic_mg 547 (by decide +kernel) (by decide +kernel)
theorem lmX6_182 : Cond.methodLink "IronCall" 182 ⟨"IronCall$Tokens", "cut", "()V"⟩ ∈ lw_gd := ic_mg 551 (by decide +kernel) (by decide +kernel)
theorem lmX5_32 : Cond.methodLink "IronCall$Tokens" 32 ⟨"IronCall$Tape", "byteAt", "(I)I"⟩ ∈ lw_gd := ic_mg 555 (by decide +kernel) (by decide +kernel)
theorem lmX5_36 : Cond.methodLink "IronCall$Tokens" 36 ⟨"IronCall$Tokens", "cutToken", "(I)I"⟩ ∈ lw_gd := ic_mg 559 (by decide +kernel) (by decide +kernel)
theorem lmX5_43 : Cond.methodLink "IronCall$Tokens" 43 ⟨"IronCall$Tape", "hasLetter", "(I)Z"⟩ ∈ lw_gd := ic_mg 563 (by decide +kernel) (by decide +kernel)
theorem lmX3_19 : Cond.methodLink "IronCall$Tape" 19 ⟨"IronCall$Tape", "byteAt", "(I)I"⟩ ∈ lw_gd := ic_mg 567 (by decide +kernel) (by decide +kernel)
theorem lmX5_47 : Cond.methodLink "IronCall$Tokens" 47 ⟨"IronCall$Tokens", "cutWord", "(I)I"⟩ ∈ lw_gd := ic_mg 568 (by decide +kernel) (by decide +kernel)
theorem lmX5_56 : Cond.methodLink "IronCall$Tokens" 56 ⟨"IronCall$Tokens", "wordSpelt", "(II)I"⟩ ∈ lw_gd := ic_mg 572 (by decide +kernel) (by decide +kernel)
theorem lmX5_60 : Cond.methodLink "IronCall$Tokens" 60 ⟨"IronCall$Tokens", "nameOf", "(I)Ljava/lang/String;"⟩ ∈ lw_gd := ic_mg 576 (by decide +kernel) (by decide +kernel)
theorem lmX5_64 : Cond.methodLink "IronCall$Tokens" 64 ⟨"IronCall$Tape", "spells", "(IILjava/lang/String;)Z"⟩ ∈ lw_gd := ic_mg 595 (by decide +kernel) (by decide +kernel)
theorem lmX3_23 : Cond.methodLink "IronCall$Tape" 23 ⟨"java/lang/String", "length", "()I"⟩ ∈ lw_gd := ic_mg 599 (by decide +kernel) (by decide +kernel)
theorem lmJ0_335 : Cond.methodLink "java/lang/String" 335 ⟨"java/lang/String", "coder", "()B"⟩ ∈ lw_gd := ic_mg 603 (by decide +kernel) (by decide +kernel)
theorem lmX3_29 : Cond.methodLink "IronCall$Tape" 29 ⟨"java/lang/String", "charAt", "(I)C"⟩ ∈ lw_gd := ic_mg 609 (by decide +kernel) (by decide +kernel)
theorem lmJ0_492 : Cond.methodLink "java/lang/String" 492 ⟨"java/lang/String", "isLatin1", "()Z"⟩ ∈ lw_gd := ic_mg 613 (by decide +kernel) (by decide +kernel)
theorem lmJ0_495 : Cond.methodLink "java/lang/String" 495 ⟨"java/lang/StringLatin1", "charAt", "([BI)C"⟩ ∈ lw_gd := ic_mg 617 (by decide +kernel) (by decide +kernel)
theorem lmJ1_9 : Cond.methodLink "java/lang/StringLatin1" 9 ⟨"java/lang/String", "checkIndex", "(II)V"⟩ ∈ lw_gd := ic_mg 620 (by decide +kernel) (by decide +kernel)
theorem lmJ0_1059 : Cond.methodLink "java/lang/String" 1059 ⟨"jdk/internal/util/Preconditions", "checkIndex", "(IILjava/util/function/BiFunction;)I"⟩ ∈ lw_gd := ic_mg 625 (by decide +kernel) (by decide +kernel)
theorem lmJ2_414 : Cond.methodLink "java/lang/StringUTF16" 414 ⟨"java/lang/String", "checkIndex", "(II)V"⟩ ∈ lw_gd := ic_mg 637 (by decide +kernel) (by decide +kernel)
theorem lmX5_39 : Cond.methodLink "IronCall$Tokens" 39 ⟨"IronCall$Tokens", "append", "(III)V"⟩ ∈ lw_gd := ic_mg 647 (by decide +kernel) (by decide +kernel)
theorem lmX5_50 : Cond.methodLink "IronCall$Tokens" 50 ⟨"IronCall$Tape", "hasDigit", "(I)Z"⟩ ∈ lw_gd := ic_mg 651 (by decide +kernel) (by decide +kernel)
theorem lmX5_53 : Cond.methodLink "IronCall$Tokens" 53 ⟨"IronCall$Tokens", "cutNumber", "(I)I"⟩ ∈ lw_gd := ic_mg 655 (by decide +kernel) (by decide +kernel)
theorem lmX5_68 : Cond.methodLink "IronCall$Tokens" 68 Lib.Math.min.name ∈ lw_gd := ic_mg 659 (by decide +kernel) (by decide +kernel)
theorem lmX6_185 : Cond.methodLink "IronCall" 185 ⟨"IronCall$Reader", "readItems", "()I"⟩ ∈ lw_gd := ic_mg 660 (by decide +kernel) (by decide +kernel)
theorem lmX0_27 : Cond.methodLink "IronCall$Reader" 27 ⟨"IronCall$Reader", "readItem", "()V"⟩ ∈ lw_gd := ic_mg 664 (by decide +kernel) (by decide +kernel)
theorem lmX0_39 : Cond.methodLink "IronCall$Reader" 39 ⟨"IronCall$Tokens", "valueAt", "(I)I"⟩ ∈ lw_gd := ic_mg 668 (by decide +kernel) (by decide +kernel)
theorem lmX0_30 : Cond.methodLink "IronCall$Reader" 30 ⟨"IronCall$Tokens", "sortAt", "(I)I"⟩ ∈ lw_gd := ic_mg 672 (by decide +kernel) (by decide +kernel)
theorem lmX0_42 : ("IronCall$Reader", 42, (⟨"IronCall", "isKind", "(I)Z"⟩ : MethodName), "IronCall") ∈ ic_nst := by decide +kernel
theorem lmX0_46 : Cond.methodLink "IronCall$Reader" 46 ⟨"IronCall$Reader", "readThing", "(I)V"⟩ ∈ lw_gd := ic_mg 677 (by decide +kernel) (by decide +kernel)
theorem lmX0_66 : Cond.methodLink "IronCall$Reader" 66 ⟨"IronCall$Street", "addThing", "(II)I"⟩ ∈ lw_gd := ic_mg 681 (by decide +kernel) (by decide +kernel)
theorem lmX0_69 : Cond.methodLink "IronCall$Reader" 69 ⟨"IronCall$Reader", "readTrait", "(III)V"⟩ ∈ lw_gd := ic_mg 682 (by decide +kernel) (by decide +kernel)
theorem lmX0_50 : Cond.methodLink "IronCall$Reader" 50 ⟨"IronCall$Reader", "passWord", "(I)Z"⟩ ∈ lw_gd := ic_mg 686 (by decide +kernel) (by decide +kernel)
theorem lmX0_76 : ("IronCall$Reader", 76, (⟨"IronCall", "leastOf", "(I)I"⟩ : MethodName), "IronCall") ∈ ic_nst := by decide +kernel
theorem lmX0_79 : ("IronCall$Reader", 79, (⟨"IronCall", "mostOf", "(I)I"⟩ : MethodName), "IronCall") ∈ ic_nst := by decide +kernel
theorem lmX0_56 : Cond.methodLink "IronCall$Reader" 56 ⟨"IronCall$Reader", "passNumber", "(II)I"⟩ ∈ lw_gd := ic_mg 692 (by decide +kernel) (by decide +kernel)
theorem lmX0_73 : Cond.methodLink "IronCall$Reader" 73 ⟨"IronCall$Street", "alter", "(III)V"⟩ ∈ lw_gd := ic_mg 696 (by decide +kernel) (by decide +kernel)
theorem lmX0_53 : Cond.methodLink "IronCall$Reader" 53 ⟨"IronCall$Reader", "readCart", "()V"⟩ ∈ lw_gd := ic_mg 697 (by decide +kernel) (by decide +kernel)
theorem lmX0_60 : Cond.methodLink "IronCall$Reader" 60 ⟨"IronCall$Street", "alterCart", "(II)V"⟩ ∈ lw_gd := ic_mg 701 (by decide +kernel) (by decide +kernel)
theorem lmX0_36 : Cond.methodLink "IronCall$Reader" 36 ⟨"IronCall$Tokens", "placeAt", "(I)I"⟩ ∈ lw_gd := ic_mg 702 (by decide +kernel) (by decide +kernel)
theorem lmL_130 : Cond.methodLink "IronCallLaw" 130 ⟨"IronCall", "hold", "(II)I"⟩ ∈ lw_gd := ic_mg 707 (by decide +kernel) (by decide +kernel)
theorem lmX6_192 : Cond.methodLink "IronCall" 192 ⟨"IronCall$Street", "hasSpot", "(I)Z"⟩ ∈ lw_gd := ic_mg 711 (by decide +kernel) (by decide +kernel)
theorem lmX6_195 : Cond.methodLink "IronCall" 195 ⟨"IronCall$Street", "putSpot", "(II)V"⟩ ∈ lw_gd := ic_mg 715 (by decide +kernel) (by decide +kernel)
theorem lmL_134 : Cond.methodLink "IronCallLaw" 134 ⟨"IronCall", "as", "(II)I"⟩ ∈ lw_gd := ic_mg 716 (by decide +kernel) (by decide +kernel)
theorem lmX6_198 : Cond.methodLink "IronCall" 198 ⟨"IronCall$Street", "spotTold", "(I)I"⟩ ∈ lw_gd := ic_mg 720 (by decide +kernel) (by decide +kernel)
theorem lmX6_201 : Cond.methodLink "IronCall" 201 ⟨"IronCall$Street", "isOfKind", "(II)Z"⟩ ∈ lw_gd := ic_mg 721 (by decide +kernel) (by decide +kernel)
theorem lmX2_81 : Cond.methodLink "IronCall$Street" 81 ⟨"IronCall$Thing", "isOfKind", "(I)Z"⟩ ∈ lw_gd := ic_mg 725 (by decide +kernel) (by decide +kernel)
theorem lmX4_54 : Cond.methodLink "IronCall$Thing" 54 ⟨"IronCall$Thing", "kindAbove", "(I)I"⟩ ∈ lw_gd := ic_mg 729 (by decide +kernel) (by decide +kernel)
theorem lmL_138 : Cond.methodLink "IronCallLaw" 138 ⟨"IronCall", "sheet", "(III)I"⟩ ∈ lw_gd := ic_mg 732 (by decide +kernel) (by decide +kernel)
theorem lmX6_208 : Cond.methodLink "IronCall" 208 ⟨"IronCall$Sheet", "renew", "(II)V"⟩ ∈ lw_gd := ic_mg 736 (by decide +kernel) (by decide +kernel)
theorem lmL_142 : Cond.methodLink "IronCallLaw" 142 ⟨"IronCall", "write", "(III)I"⟩ ∈ lw_gd := ic_mg 740 (by decide +kernel) (by decide +kernel)
theorem lmX6_216 : Cond.methodLink "IronCall" 216 ⟨"IronCall$Sheet", "put", "(II)V"⟩ ∈ lw_gd := ic_mg 744 (by decide +kernel) (by decide +kernel)
theorem lmL_146 : Cond.methodLink "IronCallLaw" 146 ⟨"IronCall", "copy", "(IIIII)I"⟩ ∈ lw_gd := ic_mg 748 (by decide +kernel) (by decide +kernel)
theorem lmX6_222 : Cond.methodLink "IronCall" 222 ⟨"IronCall$Sheet", "hasRun", "(II)Z"⟩ ∈ lw_gd := ic_mg 752 (by decide +kernel) (by decide +kernel)
theorem lmX6_228 : Cond.methodLink "IronCall" 228 ⟨"java/lang/System", "arraycopy", "(Ljava/lang/Object;ILjava/lang/Object;II)V"⟩ ∈ lw_gd := ic_mg 756 (by decide +kernel) (by decide +kernel)
theorem lmL_151 : Cond.methodLink "IronCallLaw" 151 ⟨"IronCall", "load", "(I)I"⟩ ∈ lw_gd := ic_mg 759 (by decide +kernel) (by decide +kernel)
theorem lmL_155 : Cond.methodLink "IronCallLaw" 155 ⟨"IronCall", "judge", "(I)I"⟩ ∈ lw_gd := ic_mg 763 (by decide +kernel) (by decide +kernel)
theorem lmL_159 : Cond.methodLink "IronCallLaw" 159 ⟨"IronCall", "image", "()I"⟩ ∈ lw_gd := ic_mg 767 (by decide +kernel) (by decide +kernel)
theorem lmL_163 : Cond.methodLink "IronCallLaw" 163 ⟨"IronCall", "undo", "()I"⟩ ∈ lw_gd := ic_mg 771 (by decide +kernel) (by decide +kernel)
theorem lmL_167 : Cond.methodLink "IronCallLaw" 167 ⟨"IronCall", "tear", "()I"⟩ ∈ lw_gd := ic_mg 775 (by decide +kernel) (by decide +kernel)
theorem lmL_171 : Cond.methodLink "IronCallLaw" 171 ⟨"IronCall", "count", "(I)I"⟩ ∈ lw_gd := ic_mg 779 (by decide +kernel) (by decide +kernel)
theorem lmX6_236 : Cond.methodLink "IronCall" 236 ⟨"IronCall$Street", "spotsInUse", "()I"⟩ ∈ lw_gd := ic_mg 783 (by decide +kernel) (by decide +kernel)
theorem lmL_175 : Cond.methodLink "IronCallLaw" 175 ⟨"IronCall", "status", "(I)I"⟩ ∈ lw_gd := ic_mg 787 (by decide +kernel) (by decide +kernel)
theorem lmL_17 : Cond.methodLink "IronCallLaw" 17 ⟨"IronCallModel", "set", "(II)I"⟩ ∈ lw_gd := ic_mg 849 (by decide +kernel) (by decide +kernel)
theorem lmX7_110 : Cond.methodLink "IronCallModel" 110 ⟨"IronCallModel", "isSet", "(II)Z"⟩ ∈ lw_gd := ic_mg 853 (by decide +kernel) (by decide +kernel)
theorem lmX7_103 : Cond.methodLink "IronCallModel" 103 ⟨"IronCallModel", "isCell", "(I)Z"⟩ ∈ lw_gd := ic_mg 856 (by decide +kernel) (by decide +kernel)
theorem lmX7_42 : Cond.methodLink "IronCallModel" 42 ⟨"IronCallModel", "in", "(JJJ)Z"⟩ ∈ lw_gd := ic_mg 860 (by decide +kernel) (by decide +kernel)
theorem lmX7_114 : Cond.methodLink "IronCallModel" 114 ⟨"IronCallModel", "becomes", "(II)I"⟩ ∈ lw_gd := ic_mg 865 (by decide +kernel) (by decide +kernel)
theorem lmX7_117 : Cond.methodLink "IronCallModel" 117 ⟨"IronCallModel", "finds", "(I)I"⟩ ∈ lw_gd := ic_mg 869 (by decide +kernel) (by decide +kernel)
theorem lmL_22 : Cond.methodLink "IronCallLaw" 22 ⟨"IronCallModel", "cart", "(I)I"⟩ ∈ lw_gd := ic_mg 874 (by decide +kernel) (by decide +kernel)
theorem lmL_26 : Cond.methodLink "IronCallLaw" 26 ⟨"IronCallModel", "thing", "(II)I"⟩ ∈ lw_gd := ic_mg 878 (by decide +kernel) (by decide +kernel)
theorem lmX7_122 : Cond.methodLink "IronCallModel" 122 ⟨"IronCallModel", "comes", "(II)I"⟩ ∈ lw_gd := ic_mg 883 (by decide +kernel) (by decide +kernel)
theorem lmX7_79 : Cond.methodLink "IronCallModel" 79 ⟨"IronCallModel", "sets", "(III)V"⟩ ∈ lw_gd := ic_mg 887 (by decide +kernel) (by decide +kernel)
theorem lmL_30 : Cond.methodLink "IronCallLaw" 30 ⟨"IronCallModel", "of", "(II)I"⟩ ∈ lw_gd := ic_mg 891 (by decide +kernel) (by decide +kernel)
theorem lmX7_125 : Cond.methodLink "IronCallModel" 125 ⟨"IronCallModel", "isThing", "(I)Z"⟩ ∈ lw_gd := ic_mg 895 (by decide +kernel) (by decide +kernel)
theorem lmX7_76 : Cond.methodLink "IronCallModel" 76 ⟨"IronCallModel", "feels", "(I)I"⟩ ∈ lw_gd := ic_mg 900 (by decide +kernel) (by decide +kernel)
theorem lmX7_60 : Cond.methodLink "IronCallModel" 60 ⟨"IronCallModel", "far", "(I)I"⟩ ∈ lw_gd := ic_mg 904 (by decide +kernel) (by decide +kernel)
theorem lmX7_48 : Cond.methodLink "IronCallModel" 48 ⟨"IronCallModel", "its", "(II)I"⟩ ∈ lw_gd := ic_mg 908 (by decide +kernel) (by decide +kernel)
theorem lmX7_52 : Cond.methodLink "IronCallModel" 52 ⟨"IronCallModel", "size", "(I)I"⟩ ∈ lw_gd := ic_mg 912 (by decide +kernel) (by decide +kernel)
theorem lmX7_63 : Cond.methodLink "IronCallModel" 63 ⟨"IronCallModel", "held", "(III)I"⟩ ∈ lw_gd := ic_mg 915 (by decide +kernel) (by decide +kernel)
theorem lmX7_67 : Cond.methodLink "IronCallModel" 67 ⟨"IronCallModel", "lying", "(I)I"⟩ ∈ lw_gd := ic_mg 918 (by decide +kernel) (by decide +kernel)
theorem lmX7_56 : Cond.methodLink "IronCallModel" 56 ⟨"IronCallModel", "isTaken", "(I)Z"⟩ ∈ lw_gd := ic_mg 922 (by decide +kernel) (by decide +kernel)
theorem lmX7_70 : Cond.methodLink "IronCallModel" 70 ⟨"IronCallModel", "ones", "(I)I"⟩ ∈ lw_gd := ic_mg 926 (by decide +kernel) (by decide +kernel)
theorem lmX7_83 : Cond.methodLink "IronCallModel" 83 ⟨"IronCallModel", "steps", "(I)I"⟩ ∈ lw_gd := ic_mg 929 (by decide +kernel) (by decide +kernel)
theorem lmX7_93 : Cond.methodLink "IronCallModel" 93 ⟨"IronCallModel", "isLiked", "(I)Z"⟩ ∈ lw_gd := ic_mg 933 (by decide +kernel) (by decide +kernel)
theorem lmX7_96 : Cond.methodLink "IronCallModel" 96 ⟨"IronCallModel", "rests", "(I)I"⟩ ∈ lw_gd := ic_mg 937 (by decide +kernel) (by decide +kernel)
theorem lmL_35 : Cond.methodLink "IronCallLaw" 35 ⟨"IronCallModel", "change", "(III)I"⟩ ∈ lw_gd := ic_mg 941 (by decide +kernel) (by decide +kernel)
theorem lmX7_136 : Cond.methodLink "IronCallModel" 136 ⟨"IronCallModel", "isIts", "(II)Z"⟩ ∈ lw_gd := ic_mg 945 (by decide +kernel) (by decide +kernel)
theorem lmL_39 : Cond.methodLink "IronCallLaw" 39 ⟨"IronCallModel", "who", "(I)I"⟩ ∈ lw_gd := ic_mg 951 (by decide +kernel) (by decide +kernel)
theorem lmL_43 : Cond.methodLink "IronCallLaw" 43 ⟨"IronCallModel", "go", "(I)I"⟩ ∈ lw_gd := ic_mg 955 (by decide +kernel) (by decide +kernel)
theorem lmX7_141 : Cond.methodLink "IronCallModel" 141 ⟨"IronCallModel", "callsGo", "(I)V"⟩ ∈ lw_gd := ic_mg 961 (by decide +kernel) (by decide +kernel)
theorem lmX7_100 : Cond.methodLink "IronCallModel" 100 ⟨"IronCallModel", "callGoes", "()V"⟩ ∈ lw_gd := ic_mg 965 (by decide +kernel) (by decide +kernel)
theorem lmX7_86 : Cond.methodLink "IronCallModel" 86 ⟨"IronCallModel", "cartGoes", "()V"⟩ ∈ lw_gd := ic_mg 969 (by decide +kernel) (by decide +kernel)
theorem lmX7_73 : Cond.methodLink "IronCallModel" 73 ⟨"IronCallModel", "turns", "()V"⟩ ∈ lw_gd := ic_mg 973 (by decide +kernel) (by decide +kernel)
theorem lmX7_89 : Cond.methodLink "IronCallModel" 89 ⟨"IronCallModel", "pulls", "(I)V"⟩ ∈ lw_gd := ic_mg 977 (by decide +kernel) (by decide +kernel)
theorem lmX7_144 : Cond.methodLink "IronCallModel" 144 ⟨"IronCallModel", "setOf", "(I)I"⟩ ∈ lw_gd := ic_mg 981 (by decide +kernel) (by decide +kernel)
theorem lmL_47 : Cond.methodLink "IronCallLaw" 47 ⟨"IronCallModel", "now", "(I)I"⟩ ∈ lw_gd := ic_mg 985 (by decide +kernel) (by decide +kernel)
theorem lmX7_147 : Cond.methodLink "IronCallModel" 147 ⟨"IronCallModel", "sumOf", "(I)I"⟩ ∈ lw_gd := ic_mg 989 (by decide +kernel) (by decide +kernel)
theorem lmX7_150 : Cond.methodLink "IronCallModel" 150 ⟨"IronCallModel", "heavyTaken", "()I"⟩ ∈ lw_gd := ic_mg 993 (by decide +kernel) (by decide +kernel)
theorem lmX7_154 : Cond.methodLink "IronCallModel" 154 ⟨"IronCallModel", "strongest", "()I"⟩ ∈ lw_gd := ic_mg 997 (by decide +kernel) (by decide +kernel)
theorem lmX7_157 : Cond.methodLink "IronCallModel" 157 ⟨"IronCallModel", "cells", "()I"⟩ ∈ lw_gd := ic_mg 1001 (by decide +kernel) (by decide +kernel)
theorem lmL_51 : Cond.methodLink "IronCallLaw" 51 ⟨"IronCallModel", "ahead", "(III)I"⟩ ∈ lw_gd := ic_mg 1005 (by decide +kernel) (by decide +kernel)
theorem lmX7_160 : Cond.methodLink "IronCallModel" 160 ⟨"IronCallModel", "copies", "([I[I)V"⟩ ∈ lw_gd := ic_mg 1010 (by decide +kernel) (by decide +kernel)
theorem lmX7_166 : Cond.methodLink "IronCallModel" 166 ⟨"IronCallModel", "behind", "(II)I"⟩ ∈ lw_gd := ic_mg 1013 (by decide +kernel) (by decide +kernel)
theorem lmL_55 : Cond.methodLink "IronCallLaw" 55 ⟨"IronCallModel", "where", "(I)I"⟩ ∈ lw_gd := ic_mg 1017 (by decide +kernel) (by decide +kernel)
theorem lmL_59 : Cond.methodLink "IronCallLaw" 59 ⟨"IronCallModel", "taken", "(I)I"⟩ ∈ lw_gd := ic_mg 1021 (by decide +kernel) (by decide +kernel)
theorem lmX7_169 : Cond.methodLink "IronCallModel" 169 ⟨"IronCallModel", "firstOf", "(III)I"⟩ ∈ lw_gd := ic_mg 1025 (by decide +kernel) (by decide +kernel)
theorem lmL_63 : Cond.methodLink "IronCallLaw" 63 ⟨"IronCallModel", "when", "(II)I"⟩ ∈ lw_gd := ic_mg 1029 (by decide +kernel) (by decide +kernel)
theorem lmL_67 : Cond.methodLink "IronCallLaw" 67 ⟨"IronCallModel", "meet", "(II)I"⟩ ∈ lw_gd := ic_mg 1033 (by decide +kernel) (by decide +kernel)
theorem lmL_71 : Cond.methodLink "IronCallLaw" 71 ⟨"IronCallModel", "strained", "(II)I"⟩ ∈ lw_gd := ic_mg 1037 (by decide +kernel) (by decide +kernel)
theorem lmL_75 : Cond.methodLink "IronCallLaw" 75 ⟨"IronCallModel", "loudFor", "(II)I"⟩ ∈ lw_gd := ic_mg 1041 (by decide +kernel) (by decide +kernel)
theorem lmX7_172 : Cond.methodLink "IronCallModel" 172 ⟨"IronCallModel", "isShort", "(I)Z"⟩ ∈ lw_gd := ic_mg 1045 (by decide +kernel) (by decide +kernel)
theorem lmL_79 : Cond.methodLink "IronCallLaw" 79 ⟨"IronCallModel", "startFor", "(I)I"⟩ ∈ lw_gd := ic_mg 1048 (by decide +kernel) (by decide +kernel)
theorem lmL_83 : Cond.methodLink "IronCallLaw" 83 ⟨"IronCallModel", "layFor", "(II)I"⟩ ∈ lw_gd := ic_mg 1052 (by decide +kernel) (by decide +kernel)
theorem lmX7_175 : Cond.methodLink "IronCallModel" 175 ⟨"IronCallModel", "bestOf", "(IIII)I"⟩ ∈ lw_gd := ic_mg 1056 (by decide +kernel) (by decide +kernel)
theorem lmL_87 : Cond.methodLink "IronCallLaw" 87 ⟨"IronCallModel", "kindFor", "(II)I"⟩ ∈ lw_gd := ic_mg 1060 (by decide +kernel) (by decide +kernel)
theorem lmL_91 : Cond.methodLink "IronCallLaw" 91 ⟨"IronCallModel", "heavyFor", "(II)I"⟩ ∈ lw_gd := ic_mg 1064 (by decide +kernel) (by decide +kernel)
theorem lmL_95 : Cond.methodLink "IronCallLaw" 95 ⟨"IronCallModel", "holdFast", "(I)I"⟩ ∈ lw_gd := ic_mg 1068 (by decide +kernel) (by decide +kernel)
theorem lmL_99 : Cond.methodLink "IronCallLaw" 99 ⟨"IronCallModel", "fits", "(II)I"⟩ ∈ lw_gd := ic_mg 1072 (by decide +kernel) (by decide +kernel)
theorem lmX7_182 : Cond.methodLink "IronCallModel" 182 ⟨"IronCallModel", "whyNot", "(II)I"⟩ ∈ lw_gd := ic_mg 1076 (by decide +kernel) (by decide +kernel)
theorem lmX7_179 : Cond.methodLink "IronCallModel" 179 ⟨"IronCallModel", "whyNone", "(I)I"⟩ ∈ lw_gd := ic_mg 1080 (by decide +kernel) (by decide +kernel)
theorem lmX7_301 : Cond.methodLink "IronCallModel" 301 ⟨"IronCallModel", "isSheet", "(I)Z"⟩ ∈ lw_gd := ic_mg 1084 (by decide +kernel) (by decide +kernel)
theorem lmX7_185 : Cond.methodLink "IronCallModel" 185 ⟨"IronCallModel", "fitting", "(IIIII)I"⟩ ∈ lw_gd := ic_mg 1087 (by decide +kernel) (by decide +kernel)
theorem lmL_103 : Cond.methodLink "IronCallLaw" 103 ⟨"IronCallModel", "kinds", "(II)I"⟩ ∈ lw_gd := ic_mg 1091 (by decide +kernel) (by decide +kernel)
theorem lmL_107 : Cond.methodLink "IronCallLaw" 107 ⟨"IronCallModel", "calls", "(I)I"⟩ ∈ lw_gd := ic_mg 1095 (by decide +kernel) (by decide +kernel)
theorem lmX7_190 : Cond.methodLink "IronCallModel" 190 ⟨"IronCallModel", "draw", "()I"⟩ ∈ lw_gd := ic_mg 1099 (by decide +kernel) (by decide +kernel)
theorem lmL_112 : Cond.methodLink "IronCallLaw" 112 ⟨"IronCallModel", "odds", "(IIII)J"⟩ ∈ lw_gd := ic_mg 1104 (by decide +kernel) (by decide +kernel)
theorem lmL_116 : Cond.methodLink "IronCallLaw" 116 ⟨"IronCallModel", "seed", "(I)I"⟩ ∈ lw_gd := ic_mg 1108 (by decide +kernel) (by decide +kernel)
theorem lmL_120 : Cond.methodLink "IronCallLaw" 120 ⟨"IronCallModel", "feed", "(II)I"⟩ ∈ lw_gd := ic_mg 1112 (by decide +kernel) (by decide +kernel)
theorem lmL_125 : Cond.methodLink "IronCallLaw" 125 ⟨"IronCallModel", "wipe", "()I"⟩ ∈ lw_gd := ic_mg 1117 (by decide +kernel) (by decide +kernel)
theorem lmL_129 : Cond.methodLink "IronCallLaw" 129 ⟨"IronCallModel", "text", "()I"⟩ ∈ lw_gd := ic_mg 1121 (by decide +kernel) (by decide +kernel)
theorem lmX7_291 : Cond.methodLink "IronCallModel" 291 ⟨"IronCallModel", "items", "()I"⟩ ∈ lw_gd := ic_mg 1125 (by decide +kernel) (by decide +kernel)
theorem lmX7_253 : Cond.methodLink "IronCallModel" 253 ⟨"IronCallModel", "next", "()V"⟩ ∈ lw_gd := ic_mg 1129 (by decide +kernel) (by decide +kernel)
theorem lmX7_202 : Cond.methodLink "IronCallModel" 202 ⟨"IronCallModel", "byteAt", "(I)I"⟩ ∈ lw_gd := ic_mg 1133 (by decide +kernel) (by decide +kernel)
theorem lmX7_215 : Cond.methodLink "IronCallModel" 215 ⟨"IronCallModel", "letter", "(I)I"⟩ ∈ lw_gd := ic_mg 1137 (by decide +kernel) (by decide +kernel)
theorem lmX7_222 : Cond.methodLink "IronCallModel" 222 ⟨"IronCallModel", "isDigit", "(I)Z"⟩ ∈ lw_gd := ic_mg 1142 (by decide +kernel) (by decide +kernel)
theorem lmX7_288 : Cond.methodLink "IronCallModel" 288 ⟨"IronCallModel", "item", "()V"⟩ ∈ lw_gd := ic_mg 1147 (by decide +kernel) (by decide +kernel)
theorem lmX7_275 : Cond.methodLink "IronCallModel" 275 ⟨"IronCallModel", "kindHere", "()I"⟩ ∈ lw_gd := ic_mg 1151 (by decide +kernel) (by decide +kernel)
theorem lmX7_234 : Cond.methodLink "IronCallModel" 234 ⟨"IronCallModel", "isWord", "(J)Z"⟩ ∈ lw_gd := ic_mg 1156 (by decide +kernel) (by decide +kernel)
theorem lmX7_278 : Cond.methodLink "IronCallModel" 278 ⟨"IronCallModel", "thingHere", "(I)V"⟩ ∈ lw_gd := ic_mg 1166 (by decide +kernel) (by decide +kernel)
theorem lmX7_250 : Cond.methodLink "IronCallModel" 250 ⟨"IronCallModel", "wrongHere", "()V"⟩ ∈ lw_gd := ic_mg 1170 (by decide +kernel) (by decide +kernel)
theorem lmX7_261 : Cond.methodLink "IronCallModel" 261 ⟨"IronCallModel", "perhaps", "(JIII)V"⟩ ∈ lw_gd := ic_mg 1175 (by decide +kernel) (by decide +kernel)
theorem lmX7_256 : Cond.methodLink "IronCallModel" 256 ⟨"IronCallModel", "numberHere", "(II)I"⟩ ∈ lw_gd := ic_mg 1179 (by decide +kernel) (by decide +kernel)
theorem lmX7_283 : Cond.methodLink "IronCallModel" 283 ⟨"IronCallModel", "cartHere", "()V"⟩ ∈ lw_gd := ic_mg 1187 (by decide +kernel) (by decide +kernel)
theorem lmL_133 : Cond.methodLink "IronCallLaw" 133 ⟨"IronCallModel", "hold", "(II)I"⟩ ∈ lw_gd := ic_mg 1194 (by decide +kernel) (by decide +kernel)
theorem lmL_137 : Cond.methodLink "IronCallLaw" 137 ⟨"IronCallModel", "as", "(II)I"⟩ ∈ lw_gd := ic_mg 1200 (by decide +kernel) (by decide +kernel)
theorem lmX7_298 : Cond.methodLink "IronCallModel" 298 ⟨"IronCallModel", "above", "(I)I"⟩ ∈ lw_gd := ic_mg 1204 (by decide +kernel) (by decide +kernel)
theorem lmL_141 : Cond.methodLink "IronCallLaw" 141 ⟨"IronCallModel", "sheet", "(III)I"⟩ ∈ lw_gd := ic_mg 1207 (by decide +kernel) (by decide +kernel)
theorem lmL_145 : Cond.methodLink "IronCallLaw" 145 ⟨"IronCallModel", "write", "(III)I"⟩ ∈ lw_gd := ic_mg 1211 (by decide +kernel) (by decide +kernel)
theorem lmL_150 : Cond.methodLink "IronCallLaw" 150 ⟨"IronCallModel", "copy", "(IIIII)I"⟩ ∈ lw_gd := ic_mg 1215 (by decide +kernel) (by decide +kernel)
theorem lmL_154 : Cond.methodLink "IronCallLaw" 154 ⟨"IronCallModel", "load", "(I)I"⟩ ∈ lw_gd := ic_mg 1219 (by decide +kernel) (by decide +kernel)
theorem lmL_158 : Cond.methodLink "IronCallLaw" 158 ⟨"IronCallModel", "judge", "(I)I"⟩ ∈ lw_gd := ic_mg 1223 (by decide +kernel) (by decide +kernel)
theorem lmL_162 : Cond.methodLink "IronCallLaw" 162 ⟨"IronCallModel", "image", "()I"⟩ ∈ lw_gd := ic_mg 1227 (by decide +kernel) (by decide +kernel)
theorem lmL_166 : Cond.methodLink "IronCallLaw" 166 ⟨"IronCallModel", "undo", "()I"⟩ ∈ lw_gd := ic_mg 1231 (by decide +kernel) (by decide +kernel)
theorem lmL_170 : Cond.methodLink "IronCallLaw" 170 ⟨"IronCallModel", "tear", "()I"⟩ ∈ lw_gd := ic_mg 1235 (by decide +kernel) (by decide +kernel)
theorem lmL_174 : Cond.methodLink "IronCallLaw" 174 ⟨"IronCallModel", "count", "(I)I"⟩ ∈ lw_gd := ic_mg 1239 (by decide +kernel) (by decide +kernel)
theorem lmX7_308 : Cond.methodLink "IronCallModel" 308 ⟨"IronCallModel", "holding", "()I"⟩ ∈ lw_gd := ic_mg 1243 (by decide +kernel) (by decide +kernel)
theorem lmL_178 : Cond.methodLink "IronCallLaw" 178 ⟨"IronCallModel", "status", "(I)I"⟩ ∈ lw_gd := ic_mg 1247 (by decide +kernel) (by decide +kernel)
theorem lcX6_239 : Cond.constant "IronCall" 239 (-1000001) ∈ lw_gd := ic_mg 216 (by decide +kernel) (by decide +kernel)
theorem lcJ6_265 : Cond.constant "java/lang/Integer" 265 (1431655765) ∈ lw_gd := ic_mg 280 (by decide +kernel) (by decide +kernel)
theorem lcJ6_266 : Cond.constant "java/lang/Integer" 266 (858993459) ∈ lw_gd := ic_mg 281 (by decide +kernel) (by decide +kernel)
theorem lcJ6_267 : Cond.constant "java/lang/Integer" 267 (252645135) ∈ lw_gd := ic_mg 282 (by decide +kernel) (by decide +kernel)
theorem lcX6_110 : Cond.constant "IronCall" 110 (99999) ∈ lw_gd := ic_mg 330 (by decide +kernel) (by decide +kernel)
theorem lcX2_125 : Cond.constant "IronCall$Street" 125 (99999) ∈ lw_gd := ic_mg 368 (by decide +kernel) (by decide +kernel)
theorem lcX2_146 : Cond.constant "IronCall$Street" 146 (1103515245) ∈ lw_gd := ic_mg 519 (by decide +kernel) (by decide +kernel)
theorem lcX7_46 : Cond.constantLong "IronCallModel" 46 (15) ∈ lw_gd := ic_mg 859 (by decide +kernel) (by decide +kernel)
theorem lcX7_106 : Cond.constantLong "IronCallModel" 106 (3) ∈ lw_gd := ic_mg 863 (by decide +kernel) (by decide +kernel)
theorem lcX7_108 : Cond.constantLong "IronCallModel" 108 (20) ∈ lw_gd := ic_mg 864 (by decide +kernel) (by decide +kernel)
theorem lcX7_41 : Cond.constant "IronCallModel" 41 (-1000001) ∈ lw_gd := ic_mg 873 (by decide +kernel) (by decide +kernel)
theorem lcX7_120 : Cond.constantLong "IronCallModel" 120 (6) ∈ lw_gd := ic_mg 882 (by decide +kernel) (by decide +kernel)
theorem lcX7_128 : Cond.constantLong "IronCallModel" 128 (11) ∈ lw_gd := ic_mg 899 (by decide +kernel) (by decide +kernel)
theorem lcX7_130 : Cond.constantLong "IronCallModel" 130 (99) ∈ lw_gd := ic_mg 948 (by decide +kernel) (by decide +kernel)
theorem lcX7_132 : Cond.constantLong "IronCallModel" 132 (999) ∈ lw_gd := ic_mg 949 (by decide +kernel) (by decide +kernel)
theorem lcX7_134 : Cond.constantLong "IronCallModel" 134 (9999) ∈ lw_gd := ic_mg 950 (by decide +kernel) (by decide +kernel)
theorem lcX7_139 : Cond.constantLong "IronCallModel" 139 (60) ∈ lw_gd := ic_mg 959 (by decide +kernel) (by decide +kernel)
theorem lcX7_99 : Cond.constant "IronCallModel" 99 (99999) ∈ lw_gd := ic_mg 960 (by decide +kernel) (by decide +kernel)
theorem lcX7_164 : Cond.constantLong "IronCallModel" 164 (100) ∈ lw_gd := ic_mg 1009 (by decide +kernel) (by decide +kernel)
theorem lcX7_189 : Cond.constant "IronCallModel" 189 (1103515245) ∈ lw_gd := ic_mg 1103 (by decide +kernel) (by decide +kernel)
theorem lcX7_193 : Cond.constantLong "IronCallModel" 193 (4) ∈ lw_gd := ic_mg 1116 (by decide +kernel) (by decide +kernel)
theorem lcX7_218 : Cond.constantLong "IronCallModel" 218 (100000000000000000) ∈ lw_gd := ic_mg 1140 (by decide +kernel) (by decide +kernel)
theorem lcX7_220 : Cond.constantLong "IronCallModel" 220 (27) ∈ lw_gd := ic_mg 1141 (by decide +kernel) (by decide +kernel)
theorem lcX7_225 : Cond.constantLong "IronCallModel" 225 (10) ∈ lw_gd := ic_mg 1145 (by decide +kernel) (by decide +kernel)
theorem lcX7_227 : Cond.constantLong "IronCallModel" 227 (48) ∈ lw_gd := ic_mg 1146 (by decide +kernel) (by decide +kernel)
theorem lcX7_232 : Cond.constantLong "IronCallModel" 232 (10793230) ∈ lw_gd := ic_mg 1155 (by decide +kernel) (by decide +kernel)
theorem lcX7_238 : Cond.constantLong "IronCallModel" 238 (190688) ∈ lw_gd := ic_mg 1160 (by decide +kernel) (by decide +kernel)
theorem lcX7_240 : Cond.constantLong "IronCallModel" 240 (149044) ∈ lw_gd := ic_mg 1161 (by decide +kernel) (by decide +kernel)
theorem lcX7_242 : Cond.constantLong "IronCallModel" 242 (10561513) ∈ lw_gd := ic_mg 1162 (by decide +kernel) (by decide +kernel)
theorem lcX7_244 : Cond.constantLong "IronCallModel" 244 (1597) ∈ lw_gd := ic_mg 1163 (by decide +kernel) (by decide +kernel)
theorem lcX7_246 : Cond.constantLong "IronCallModel" 246 (203643563) ∈ lw_gd := ic_mg 1164 (by decide +kernel) (by decide +kernel)
theorem lcX7_248 : Cond.constantLong "IronCallModel" 248 (1960187) ∈ lw_gd := ic_mg 1165 (by decide +kernel) (by decide +kernel)
theorem lcX7_259 : Cond.constantLong "IronCallModel" 259 (47) ∈ lw_gd := ic_mg 1174 (by decide +kernel) (by decide +kernel)
theorem lcX7_265 : Cond.constantLong "IronCallModel" 265 (4351291) ∈ lw_gd := ic_mg 1183 (by decide +kernel) (by decide +kernel)
theorem lcX7_267 : Cond.constantLong "IronCallModel" 267 (240987856) ∈ lw_gd := ic_mg 1184 (by decide +kernel) (by decide +kernel)
theorem lcX7_269 : Cond.constantLong "IronCallModel" 269 (161437) ∈ lw_gd := ic_mg 1185 (by decide +kernel) (by decide +kernel)
theorem lcX7_281 : Cond.constantLong "IronCallModel" 281 (60284) ∈ lw_gd := ic_mg 1186 (by decide +kernel) (by decide +kernel)
theorem lcX7_271 : Cond.constantLong "IronCallModel" 271 (40187) ∈ lw_gd := ic_mg 1191 (by decide +kernel) (by decide +kernel)
theorem lcX7_273 : Cond.constantLong "IronCallModel" 273 (315743) ∈ lw_gd := ic_mg 1192 (by decide +kernel) (by decide +kernel)
theorem lcX7_286 : Cond.constantLong "IronCallModel" 286 (247702) ∈ lw_gd := ic_mg 1193 (by decide +kernel) (by decide +kernel)
theorem lcX7_294 : Cond.constantLong "IronCallModel" 294 (9) ∈ lw_gd := ic_mg 1198 (by decide +kernel) (by decide +kernel)
theorem lcX7_296 : Cond.constantLong "IronCallModel" 296 (-1) ∈ lw_gd := ic_mg 1199 (by decide +kernel) (by decide +kernel)
theorem ok_mabs : Cond.static Lib.Math.abs.name ∈ lw_gd ∧ Cond.initialized "java/lang/Math" ∈ lw_gd ∧ Cond.code Lib.Math.abs.name Lib.Math.abs.code 1 (some .int) ∈ lw_gd := ⟨ic_mg 264 (by decide +kernel) (by decide +kernel), ic_mg 9 (by decide +kernel) (by decide +kernel), ic_mg 265 (by decide +kernel) (by decide +kernel)⟩
theorem ok_mmax : Cond.static Lib.Math.max.name ∈ lw_gd ∧ Cond.initialized "java/lang/Math" ∈ lw_gd ∧ Cond.code Lib.Math.max.name Lib.Math.max.code 2 (some .int) ∈ lw_gd := ⟨ic_mg 271 (by decide +kernel) (by decide +kernel), ic_mg 9 (by decide +kernel) (by decide +kernel), ic_mg 272 (by decide +kernel) (by decide +kernel)⟩
theorem ok_mmin : Cond.static Lib.Math.min.name ∈ lw_gd ∧ Cond.initialized "java/lang/Math" ∈ lw_gd ∧ Cond.code Lib.Math.min.name Lib.Math.min.code 2 (some .int) ∈ lw_gd := ⟨ic_mg 352 (by decide +kernel) (by decide +kernel), ic_mg 9 (by decide +kernel) (by decide +kernel), ic_mg 353 (by decide +kernel) (by decide +kernel)⟩
theorem ok_arraycopy : Cond.native arraycopyName ∈ lw_gd ∧ Cond.static arraycopyName ∈ lw_gd ∧ Cond.initialized "java/lang/System" ∈ lw_gd := ⟨ic_mg 758 (by decide +kernel) (by decide +kernel), ic_mg 757 (by decide +kernel) (by decide +kernel), ic_mg 15 (by decide +kernel) (by decide +kernel)⟩
end
section
theorem ic_upS {g : ic_S} {b i : Nat} {v : Int32} : (ic_up g b i v).1 b i = v := if_pos ⟨rfl, rfl⟩
theorem ic_upN {g : ic_S} {b i b' i' : Nat} {v : Int32} (h : ¬ (b' = b ∧ i' = i)) : (ic_up g b i v).1 b' i' = g.1 b' i' := if_neg h
theorem gX6_street {g : ic_S} : ic_fg 6 0 g (0, 0, 0) (ic_R 1 0 0) := ⟨ic_memk 0 (by decide) 0 (by decide) 0 (by decide), fun κ => ⟨_, rfl, by rw [ic_cvk (show (1 : Nat) ≠ 26 by decide)]; rfl⟩⟩
theorem gX6_trial {g : ic_S} : ic_fg 6 1 g (0, 0, 0) (ic_R 1 1 0) := ⟨ic_memk 0 (by decide) 0 (by decide) 0 (by decide), fun κ => ⟨_, rfl, by rw [ic_cvk (show (1 : Nat) ≠ 26 by decide)]; rfl⟩⟩
theorem gX6_kept {g : ic_S} : ic_fg 6 2 g (0, 0, 0) (ic_R 1 2 0) := ⟨ic_memk 0 (by decide) 0 (by decide) 0 (by decide), fun κ => ⟨_, rfl, by rw [ic_cvk (show (1 : Nat) ≠ 26 by decide)]; rfl⟩⟩
theorem gX6_hasKept {g : ic_S} : ic_fg 6 3 g (0, 0, 0) (ic_I (g.1 7 0)) := ⟨ic_memk 0 (by decide) 0 (by decide) 0 (by decide), fun κ => ⟨_, rfl, rfl⟩⟩
theorem pX6_hasKept {g g1 : ic_S} {v : Int32} (hz : ic_nz v = true) (h1 : g1 = ic_up g 7 0 v) : ic_fp 6 3 g (0, 0, 0) (ic_I v) g1 := by
  subst h1
  have e : (ic_up g 7 0 v).1 7 0 = v := ic_upS
  have ho : ic_own 7 0 = (0, 0, 0) := by
    rfl
  refine ⟨ic_memk 0 (by decide) 0 (by decide) 0 (by decide), fun κ => ⟨_, rfl, ?_, by show _ < 9; decide⟩, fun κ y hy hne => ic_oth κ g _ _ v y hy (fun q => hne (q.symm.trans ho)), fun k => ?_, ?_, fun κ => ic_nzn hz⟩
  · show ic_cel κ (ic_up g 7 0 v) (0, 0, 0) = _
    simp only [ic_cel, e]
    rfl
  · exact ic_upN (by omega)
  · exact ic_upN (by omega)
theorem gX6_tape {g : ic_S} : ic_fg 6 4 g (0, 0, 0) (ic_R 5 0 0) := ⟨ic_memk 0 (by decide) 0 (by decide) 0 (by decide), fun κ => ⟨_, rfl, by rw [ic_cvk (show (5 : Nat) ≠ 26 by decide)]; rfl⟩⟩
theorem gX6_tokens {g : ic_S} : ic_fg 6 5 g (0, 0, 0) (ic_R 7 0 0) := ⟨ic_memk 0 (by decide) 0 (by decide) 0 (by decide), fun κ => ⟨_, rfl, by rw [ic_cvk (show (7 : Nat) ≠ 26 by decide)]; rfl⟩⟩
theorem gX6_reader {g : ic_S} : ic_fg 6 6 g (0, 0, 0) (ic_R 11 0 0) := ⟨ic_memk 0 (by decide) 0 (by decide) 0 (by decide), fun κ => ⟨_, rfl, by rw [ic_cvk (show (11 : Nat) ≠ 26 by decide)]; rfl⟩⟩
theorem gX6_sheets {g : ic_S} : ic_fg 6 7 g (0, 0, 0) (ic_R 12 0 0) := ⟨ic_memk 0 (by decide) 0 (by decide) 0 (by decide), fun κ => ⟨_, rfl, by rw [ic_cvk (show (12 : Nat) ≠ 26 by decide)]; rfl⟩⟩
theorem gX6_findings {g : ic_S} : ic_fg 6 8 g (0, 0, 0) (ic_R 15 0 0) := ⟨ic_memk 0 (by decide) 0 (by decide) 0 (by decide), fun κ => ⟨_, rfl, by rw [ic_cvk (show (15 : Nat) ≠ 26 by decide)]; rfl⟩⟩
theorem gX2_cell {g : ic_S} {s : Nat} (hs : s < 3) : ic_fg 2 0 g (1, s, 0) (ic_I (g.1 s 3)) := ⟨ic_memk 1 (by decide) s hs 0 (by decide), fun κ => ⟨_, rfl, rfl⟩⟩
theorem pX2_cell {g g1 : ic_S} {v : Int32} {s : Nat} (hs : s < 3) (h1 : g1 = ic_up g s 3 v) : ic_fp 2 0 g (1, s, 0) (ic_I v) g1 := by
  subst h1
  have e : (ic_up g s 3 v).1 s 3 = v := ic_upS
  have ho : ic_own s 3 = (1, s, 0) := by
    rcases (show s = 0 ∨ s = 1 ∨ s = 2 by omega) with rfl | rfl | rfl <;> rfl
  refine ⟨ic_memk 1 (by decide) s hs 0 (by decide), fun κ => ⟨_, rfl, ?_, by show _ < 9; decide⟩, fun κ y hy hne => ic_oth κ g _ _ v y hy (fun q => hne (q.symm.trans ho)), fun k => ?_, ?_, fun κ => ⟨rfl, rfl⟩⟩
  · show ic_cel κ (ic_up g s 3 v) (1, s, 0) = _
    have h_way : (ic_up g s 3 v).1 s 4 = g.1 s 4 := ic_upN (by omega)
    have h_pace : (ic_up g s 3 v).1 s 5 = g.1 s 5 := ic_upN (by omega)
    have h_loud : (ic_up g s 3 v).1 s 6 = g.1 s 6 := ic_upN (by omega)
    have h_callNumber : (ic_up g s 3 v).1 s 1 = g.1 s 1 := ic_upN (by omega)
    have h_z : (ic_up g s 3 v).1 s 2 = g.1 s 2 := ic_upN (by omega)
    have h_made : (ic_up g s 3 v).1 s 0 = g.1 s 0 := ic_upN (by omega)
    simp only [ic_cel, e, h_way, h_pace, h_loud, h_callNumber, h_z, h_made]
    rfl
  · exact ic_upN (by omega)
  · exact ic_upN (by omega)
theorem gX2_way {g : ic_S} {s : Nat} (hs : s < 3) : ic_fg 2 1 g (1, s, 0) (ic_I (g.1 s 4)) := ⟨ic_memk 1 (by decide) s hs 0 (by decide), fun κ => ⟨_, rfl, rfl⟩⟩
theorem pX2_way {g g1 : ic_S} {v : Int32} {s : Nat} (hs : s < 3) (h1 : g1 = ic_up g s 4 v) : ic_fp 2 1 g (1, s, 0) (ic_I v) g1 := by
  subst h1
  have e : (ic_up g s 4 v).1 s 4 = v := ic_upS
  have ho : ic_own s 4 = (1, s, 0) := by
    rcases (show s = 0 ∨ s = 1 ∨ s = 2 by omega) with rfl | rfl | rfl <;> rfl
  refine ⟨ic_memk 1 (by decide) s hs 0 (by decide), fun κ => ⟨_, rfl, ?_, by show _ < 9; decide⟩, fun κ y hy hne => ic_oth κ g _ _ v y hy (fun q => hne (q.symm.trans ho)), fun k => ?_, ?_, fun κ => ⟨rfl, rfl⟩⟩
  · show ic_cel κ (ic_up g s 4 v) (1, s, 0) = _
    have h_cell : (ic_up g s 4 v).1 s 3 = g.1 s 3 := ic_upN (by omega)
    have h_pace : (ic_up g s 4 v).1 s 5 = g.1 s 5 := ic_upN (by omega)
    have h_loud : (ic_up g s 4 v).1 s 6 = g.1 s 6 := ic_upN (by omega)
    have h_callNumber : (ic_up g s 4 v).1 s 1 = g.1 s 1 := ic_upN (by omega)
    have h_z : (ic_up g s 4 v).1 s 2 = g.1 s 2 := ic_upN (by omega)
    have h_made : (ic_up g s 4 v).1 s 0 = g.1 s 0 := ic_upN (by omega)
    simp only [ic_cel, e, h_cell, h_pace, h_loud, h_callNumber, h_z, h_made]
    rfl
  · exact ic_upN (by omega)
  · exact ic_upN (by omega)
theorem gX2_pace {g : ic_S} {s : Nat} (hs : s < 3) : ic_fg 2 2 g (1, s, 0) (ic_I (g.1 s 5)) := ⟨ic_memk 1 (by decide) s hs 0 (by decide), fun κ => ⟨_, rfl, rfl⟩⟩
theorem pX2_pace {g g1 : ic_S} {v : Int32} {s : Nat} (hs : s < 3) (h1 : g1 = ic_up g s 5 v) : ic_fp 2 2 g (1, s, 0) (ic_I v) g1 := by
  subst h1
  have e : (ic_up g s 5 v).1 s 5 = v := ic_upS
  have ho : ic_own s 5 = (1, s, 0) := by
    rcases (show s = 0 ∨ s = 1 ∨ s = 2 by omega) with rfl | rfl | rfl <;> rfl
  refine ⟨ic_memk 1 (by decide) s hs 0 (by decide), fun κ => ⟨_, rfl, ?_, by show _ < 9; decide⟩, fun κ y hy hne => ic_oth κ g _ _ v y hy (fun q => hne (q.symm.trans ho)), fun k => ?_, ?_, fun κ => ⟨rfl, rfl⟩⟩
  · show ic_cel κ (ic_up g s 5 v) (1, s, 0) = _
    have h_cell : (ic_up g s 5 v).1 s 3 = g.1 s 3 := ic_upN (by omega)
    have h_way : (ic_up g s 5 v).1 s 4 = g.1 s 4 := ic_upN (by omega)
    have h_loud : (ic_up g s 5 v).1 s 6 = g.1 s 6 := ic_upN (by omega)
    have h_callNumber : (ic_up g s 5 v).1 s 1 = g.1 s 1 := ic_upN (by omega)
    have h_z : (ic_up g s 5 v).1 s 2 = g.1 s 2 := ic_upN (by omega)
    have h_made : (ic_up g s 5 v).1 s 0 = g.1 s 0 := ic_upN (by omega)
    simp only [ic_cel, e, h_cell, h_way, h_loud, h_callNumber, h_z, h_made]
    rfl
  · exact ic_upN (by omega)
  · exact ic_upN (by omega)
theorem gX2_loud {g : ic_S} {s : Nat} (hs : s < 3) : ic_fg 2 3 g (1, s, 0) (ic_I (g.1 s 6)) := ⟨ic_memk 1 (by decide) s hs 0 (by decide), fun κ => ⟨_, rfl, rfl⟩⟩
theorem pX2_loud {g g1 : ic_S} {v : Int32} {s : Nat} (hs : s < 3) (h1 : g1 = ic_up g s 6 v) : ic_fp 2 3 g (1, s, 0) (ic_I v) g1 := by
  subst h1
  have e : (ic_up g s 6 v).1 s 6 = v := ic_upS
  have ho : ic_own s 6 = (1, s, 0) := by
    rcases (show s = 0 ∨ s = 1 ∨ s = 2 by omega) with rfl | rfl | rfl <;> rfl
  refine ⟨ic_memk 1 (by decide) s hs 0 (by decide), fun κ => ⟨_, rfl, ?_, by show _ < 9; decide⟩, fun κ y hy hne => ic_oth κ g _ _ v y hy (fun q => hne (q.symm.trans ho)), fun k => ?_, ?_, fun κ => ⟨rfl, rfl⟩⟩
  · show ic_cel κ (ic_up g s 6 v) (1, s, 0) = _
    have h_cell : (ic_up g s 6 v).1 s 3 = g.1 s 3 := ic_upN (by omega)
    have h_way : (ic_up g s 6 v).1 s 4 = g.1 s 4 := ic_upN (by omega)
    have h_pace : (ic_up g s 6 v).1 s 5 = g.1 s 5 := ic_upN (by omega)
    have h_callNumber : (ic_up g s 6 v).1 s 1 = g.1 s 1 := ic_upN (by omega)
    have h_z : (ic_up g s 6 v).1 s 2 = g.1 s 2 := ic_upN (by omega)
    have h_made : (ic_up g s 6 v).1 s 0 = g.1 s 0 := ic_upN (by omega)
    simp only [ic_cel, e, h_cell, h_way, h_pace, h_callNumber, h_z, h_made]
    rfl
  · exact ic_upN (by omega)
  · exact ic_upN (by omega)
theorem gX2_callNumber {g : ic_S} {s : Nat} (hs : s < 3) : ic_fg 2 4 g (1, s, 0) (ic_I (g.1 s 1)) := ⟨ic_memk 1 (by decide) s hs 0 (by decide), fun κ => ⟨_, rfl, rfl⟩⟩
theorem pX2_callNumber {g g1 : ic_S} {v : Int32} {s : Nat} (hs : s < 3) (h1 : g1 = ic_up g s 1 v) : ic_fp 2 4 g (1, s, 0) (ic_I v) g1 := by
  subst h1
  have e : (ic_up g s 1 v).1 s 1 = v := ic_upS
  have ho : ic_own s 1 = (1, s, 0) := by
    rcases (show s = 0 ∨ s = 1 ∨ s = 2 by omega) with rfl | rfl | rfl <;> rfl
  refine ⟨ic_memk 1 (by decide) s hs 0 (by decide), fun κ => ⟨_, rfl, ?_, by show _ < 9; decide⟩, fun κ y hy hne => ic_oth κ g _ _ v y hy (fun q => hne (q.symm.trans ho)), fun k => ?_, ?_, fun κ => ⟨rfl, rfl⟩⟩
  · show ic_cel κ (ic_up g s 1 v) (1, s, 0) = _
    have h_cell : (ic_up g s 1 v).1 s 3 = g.1 s 3 := ic_upN (by omega)
    have h_way : (ic_up g s 1 v).1 s 4 = g.1 s 4 := ic_upN (by omega)
    have h_pace : (ic_up g s 1 v).1 s 5 = g.1 s 5 := ic_upN (by omega)
    have h_loud : (ic_up g s 1 v).1 s 6 = g.1 s 6 := ic_upN (by omega)
    have h_z : (ic_up g s 1 v).1 s 2 = g.1 s 2 := ic_upN (by omega)
    have h_made : (ic_up g s 1 v).1 s 0 = g.1 s 0 := ic_upN (by omega)
    simp only [ic_cel, e, h_cell, h_way, h_pace, h_loud, h_z, h_made]
    rfl
  · exact ic_upN (by omega)
  · exact ic_upN (by omega)
theorem gX2_z {g : ic_S} {s : Nat} (hs : s < 3) : ic_fg 2 5 g (1, s, 0) (ic_I (g.1 s 2)) := ⟨ic_memk 1 (by decide) s hs 0 (by decide), fun κ => ⟨_, rfl, rfl⟩⟩
theorem pX2_z {g g1 : ic_S} {v : Int32} {s : Nat} (hs : s < 3) (h1 : g1 = ic_up g s 2 v) : ic_fp 2 5 g (1, s, 0) (ic_I v) g1 := by
  subst h1
  have e : (ic_up g s 2 v).1 s 2 = v := ic_upS
  have ho : ic_own s 2 = (1, s, 0) := by
    rcases (show s = 0 ∨ s = 1 ∨ s = 2 by omega) with rfl | rfl | rfl <;> rfl
  refine ⟨ic_memk 1 (by decide) s hs 0 (by decide), fun κ => ⟨_, rfl, ?_, by show _ < 9; decide⟩, fun κ y hy hne => ic_oth κ g _ _ v y hy (fun q => hne (q.symm.trans ho)), fun k => ?_, ?_, fun κ => ⟨rfl, rfl⟩⟩
  · show ic_cel κ (ic_up g s 2 v) (1, s, 0) = _
    have h_cell : (ic_up g s 2 v).1 s 3 = g.1 s 3 := ic_upN (by omega)
    have h_way : (ic_up g s 2 v).1 s 4 = g.1 s 4 := ic_upN (by omega)
    have h_pace : (ic_up g s 2 v).1 s 5 = g.1 s 5 := ic_upN (by omega)
    have h_loud : (ic_up g s 2 v).1 s 6 = g.1 s 6 := ic_upN (by omega)
    have h_callNumber : (ic_up g s 2 v).1 s 1 = g.1 s 1 := ic_upN (by omega)
    have h_made : (ic_up g s 2 v).1 s 0 = g.1 s 0 := ic_upN (by omega)
    simp only [ic_cel, e, h_cell, h_way, h_pace, h_loud, h_callNumber, h_made]
    rfl
  · exact ic_upN (by omega)
  · exact ic_upN (by omega)
theorem gX2_made {g : ic_S} {s : Nat} (hs : s < 3) : ic_fg 2 6 g (1, s, 0) (ic_I (g.1 s 0)) := ⟨ic_memk 1 (by decide) s hs 0 (by decide), fun κ => ⟨_, rfl, rfl⟩⟩
theorem pX2_made {g g1 : ic_S} {v : Int32} {s : Nat} (hs : s < 3) (h1 : g1 = ic_up g s 0 v) : ic_fp 2 6 g (1, s, 0) (ic_I v) g1 := by
  subst h1
  have e : (ic_up g s 0 v).1 s 0 = v := ic_upS
  have ho : ic_own s 0 = (1, s, 0) := by
    rcases (show s = 0 ∨ s = 1 ∨ s = 2 by omega) with rfl | rfl | rfl <;> rfl
  refine ⟨ic_memk 1 (by decide) s hs 0 (by decide), fun κ => ⟨_, rfl, ?_, by show _ < 9; decide⟩, fun κ y hy hne => ic_oth κ g _ _ v y hy (fun q => hne (q.symm.trans ho)), fun k => ?_, ?_, fun κ => ⟨rfl, rfl⟩⟩
  · show ic_cel κ (ic_up g s 0 v) (1, s, 0) = _
    have h_cell : (ic_up g s 0 v).1 s 3 = g.1 s 3 := ic_upN (by omega)
    have h_way : (ic_up g s 0 v).1 s 4 = g.1 s 4 := ic_upN (by omega)
    have h_pace : (ic_up g s 0 v).1 s 5 = g.1 s 5 := ic_upN (by omega)
    have h_loud : (ic_up g s 0 v).1 s 6 = g.1 s 6 := ic_upN (by omega)
    have h_callNumber : (ic_up g s 0 v).1 s 1 = g.1 s 1 := ic_upN (by omega)
    have h_z : (ic_up g s 0 v).1 s 2 = g.1 s 2 := ic_upN (by omega)
    simp only [ic_cel, e, h_cell, h_way, h_pace, h_loud, h_callNumber, h_z]
    rfl
  · exact ic_upN (by omega)
  · exact ic_upN (by omega)
theorem gX2_things {g : ic_S} {s : Nat} (hs : s < 3) : ic_fg 2 7 g (1, s, 0) (ic_R 2 s 0) := ⟨ic_memk 1 (by decide) s hs 0 (by decide), fun κ => ⟨_, rfl, by rw [ic_cvk (show (2 : Nat) ≠ 26 by decide)]; rfl⟩⟩
theorem gX2_spots {g : ic_S} {s : Nat} (hs : s < 3) : ic_fg 2 8 g (1, s, 0) (ic_R 4 s 0) := ⟨ic_memk 1 (by decide) s hs 0 (by decide), fun κ => ⟨_, rfl, by rw [ic_cvk (show (4 : Nat) ≠ 26 by decide)]; rfl⟩⟩
theorem gX4_number {g : ic_S} {s : Nat} (hs : s < 3) {t : Nat} (ht : t < 8) : ic_fg 4 0 g (3, s, t) (ic_I (Int32.ofNat t)) := ⟨ic_memk 3 (by decide) s hs t ht, fun κ => ⟨_, rfl, rfl⟩⟩
theorem gX4_kind {g : ic_S} {s : Nat} (hs : s < 3) {t : Nat} (ht : t < 8) : ic_fg 4 1 g (3, s, t) (ic_I (g.1 s (7 + t))) := ⟨ic_memk 3 (by decide) s hs t ht, fun κ => ⟨_, rfl, rfl⟩⟩
theorem pX4_kind {g g1 : ic_S} {v : Int32} {s : Nat} (hs : s < 3) {t : Nat} (ht : t < 8) (h1 : g1 = ic_up g s (7 + t) v) : ic_fp 4 1 g (3, s, t) (ic_I v) g1 := by
  subst h1
  have e : (ic_up g s (7 + t) v).1 s (7 + t) = v := ic_upS
  have ho : ic_own s (7 + t) = (3, s, t) := by
    rcases (show s = 0 ∨ s = 1 ∨ s = 2 by omega) with rfl | rfl | rfl
    all_goals (show (if (7 + t) < 7 then _ else if (7 + t) < 63 then _ else _) = _; rw [if_neg (by omega), if_pos (by omega), show ((7 + t) - 7) % 8 = t by omega])
  refine ⟨ic_memk 3 (by decide) s hs t ht, fun κ => ⟨_, rfl, ?_, by show _ < 8; decide⟩, fun κ y hy hne => ic_oth κ g _ _ v y hy (fun q => hne (q.symm.trans ho)), fun k => ?_, ?_, fun κ => ⟨rfl, rfl⟩⟩
  · show ic_cel κ (ic_up g s (7 + t) v) (3, s, t) = _
    have h_cell : (ic_up g s (7 + t) v).1 s (15 + t) = g.1 s (15 + t) := ic_upN (by omega)
    have h_heavy : (ic_up g s (7 + t) v).1 s (23 + t) = g.1 s (23 + t) := ic_upN (by omega)
    have h_pulled : (ic_up g s (7 + t) v).1 s (31 + t) = g.1 s (31 + t) := ic_upN (by omega)
    have h_moved : (ic_up g s (7 + t) v).1 s (55 + t) = g.1 s (55 + t) := ic_upN (by omega)
    have h_isHeld : (ic_up g s (7 + t) v).1 s (39 + t) = g.1 s (39 + t) := ic_upN (by omega)
    have h_isTaken : (ic_up g s (7 + t) v).1 s (47 + t) = g.1 s (47 + t) := ic_upN (by omega)
    simp only [ic_cel, e, h_cell, h_heavy, h_pulled, h_moved, h_isHeld, h_isTaken]
    rfl
  · exact ic_upN (by omega)
  · exact ic_upN (by omega)
theorem gX4_cell {g : ic_S} {s : Nat} (hs : s < 3) {t : Nat} (ht : t < 8) : ic_fg 4 2 g (3, s, t) (ic_I (g.1 s (15 + t))) := ⟨ic_memk 3 (by decide) s hs t ht, fun κ => ⟨_, rfl, rfl⟩⟩
theorem pX4_cell {g g1 : ic_S} {v : Int32} {s : Nat} (hs : s < 3) {t : Nat} (ht : t < 8) (h1 : g1 = ic_up g s (15 + t) v) : ic_fp 4 2 g (3, s, t) (ic_I v) g1 := by
  subst h1
  have e : (ic_up g s (15 + t) v).1 s (15 + t) = v := ic_upS
  have ho : ic_own s (15 + t) = (3, s, t) := by
    rcases (show s = 0 ∨ s = 1 ∨ s = 2 by omega) with rfl | rfl | rfl
    all_goals (show (if (15 + t) < 7 then _ else if (15 + t) < 63 then _ else _) = _; rw [if_neg (by omega), if_pos (by omega), show ((15 + t) - 7) % 8 = t by omega])
  refine ⟨ic_memk 3 (by decide) s hs t ht, fun κ => ⟨_, rfl, ?_, by show _ < 8; decide⟩, fun κ y hy hne => ic_oth κ g _ _ v y hy (fun q => hne (q.symm.trans ho)), fun k => ?_, ?_, fun κ => ⟨rfl, rfl⟩⟩
  · show ic_cel κ (ic_up g s (15 + t) v) (3, s, t) = _
    have h_kind : (ic_up g s (15 + t) v).1 s (7 + t) = g.1 s (7 + t) := ic_upN (by omega)
    have h_heavy : (ic_up g s (15 + t) v).1 s (23 + t) = g.1 s (23 + t) := ic_upN (by omega)
    have h_pulled : (ic_up g s (15 + t) v).1 s (31 + t) = g.1 s (31 + t) := ic_upN (by omega)
    have h_moved : (ic_up g s (15 + t) v).1 s (55 + t) = g.1 s (55 + t) := ic_upN (by omega)
    have h_isHeld : (ic_up g s (15 + t) v).1 s (39 + t) = g.1 s (39 + t) := ic_upN (by omega)
    have h_isTaken : (ic_up g s (15 + t) v).1 s (47 + t) = g.1 s (47 + t) := ic_upN (by omega)
    simp only [ic_cel, e, h_kind, h_heavy, h_pulled, h_moved, h_isHeld, h_isTaken]
    rfl
  · exact ic_upN (by omega)
  · exact ic_upN (by omega)
theorem gX4_heavy {g : ic_S} {s : Nat} (hs : s < 3) {t : Nat} (ht : t < 8) : ic_fg 4 3 g (3, s, t) (ic_I (g.1 s (23 + t))) := ⟨ic_memk 3 (by decide) s hs t ht, fun κ => ⟨_, rfl, rfl⟩⟩
theorem pX4_heavy {g g1 : ic_S} {v : Int32} {s : Nat} (hs : s < 3) {t : Nat} (ht : t < 8) (h1 : g1 = ic_up g s (23 + t) v) : ic_fp 4 3 g (3, s, t) (ic_I v) g1 := by
  subst h1
  have e : (ic_up g s (23 + t) v).1 s (23 + t) = v := ic_upS
  have ho : ic_own s (23 + t) = (3, s, t) := by
    rcases (show s = 0 ∨ s = 1 ∨ s = 2 by omega) with rfl | rfl | rfl
    all_goals (show (if (23 + t) < 7 then _ else if (23 + t) < 63 then _ else _) = _; rw [if_neg (by omega), if_pos (by omega), show ((23 + t) - 7) % 8 = t by omega])
  refine ⟨ic_memk 3 (by decide) s hs t ht, fun κ => ⟨_, rfl, ?_, by show _ < 8; decide⟩, fun κ y hy hne => ic_oth κ g _ _ v y hy (fun q => hne (q.symm.trans ho)), fun k => ?_, ?_, fun κ => ⟨rfl, rfl⟩⟩
  · show ic_cel κ (ic_up g s (23 + t) v) (3, s, t) = _
    have h_kind : (ic_up g s (23 + t) v).1 s (7 + t) = g.1 s (7 + t) := ic_upN (by omega)
    have h_cell : (ic_up g s (23 + t) v).1 s (15 + t) = g.1 s (15 + t) := ic_upN (by omega)
    have h_pulled : (ic_up g s (23 + t) v).1 s (31 + t) = g.1 s (31 + t) := ic_upN (by omega)
    have h_moved : (ic_up g s (23 + t) v).1 s (55 + t) = g.1 s (55 + t) := ic_upN (by omega)
    have h_isHeld : (ic_up g s (23 + t) v).1 s (39 + t) = g.1 s (39 + t) := ic_upN (by omega)
    have h_isTaken : (ic_up g s (23 + t) v).1 s (47 + t) = g.1 s (47 + t) := ic_upN (by omega)
    simp only [ic_cel, e, h_kind, h_cell, h_pulled, h_moved, h_isHeld, h_isTaken]
    rfl
  · exact ic_upN (by omega)
  · exact ic_upN (by omega)
theorem gX4_pulled {g : ic_S} {s : Nat} (hs : s < 3) {t : Nat} (ht : t < 8) : ic_fg 4 4 g (3, s, t) (ic_I (g.1 s (31 + t))) := ⟨ic_memk 3 (by decide) s hs t ht, fun κ => ⟨_, rfl, rfl⟩⟩
theorem pX4_pulled {g g1 : ic_S} {v : Int32} {s : Nat} (hs : s < 3) {t : Nat} (ht : t < 8) (h1 : g1 = ic_up g s (31 + t) v) : ic_fp 4 4 g (3, s, t) (ic_I v) g1 := by
  subst h1
  have e : (ic_up g s (31 + t) v).1 s (31 + t) = v := ic_upS
  have ho : ic_own s (31 + t) = (3, s, t) := by
    rcases (show s = 0 ∨ s = 1 ∨ s = 2 by omega) with rfl | rfl | rfl
    all_goals (show (if (31 + t) < 7 then _ else if (31 + t) < 63 then _ else _) = _; rw [if_neg (by omega), if_pos (by omega), show ((31 + t) - 7) % 8 = t by omega])
  refine ⟨ic_memk 3 (by decide) s hs t ht, fun κ => ⟨_, rfl, ?_, by show _ < 8; decide⟩, fun κ y hy hne => ic_oth κ g _ _ v y hy (fun q => hne (q.symm.trans ho)), fun k => ?_, ?_, fun κ => ⟨rfl, rfl⟩⟩
  · show ic_cel κ (ic_up g s (31 + t) v) (3, s, t) = _
    have h_kind : (ic_up g s (31 + t) v).1 s (7 + t) = g.1 s (7 + t) := ic_upN (by omega)
    have h_cell : (ic_up g s (31 + t) v).1 s (15 + t) = g.1 s (15 + t) := ic_upN (by omega)
    have h_heavy : (ic_up g s (31 + t) v).1 s (23 + t) = g.1 s (23 + t) := ic_upN (by omega)
    have h_moved : (ic_up g s (31 + t) v).1 s (55 + t) = g.1 s (55 + t) := ic_upN (by omega)
    have h_isHeld : (ic_up g s (31 + t) v).1 s (39 + t) = g.1 s (39 + t) := ic_upN (by omega)
    have h_isTaken : (ic_up g s (31 + t) v).1 s (47 + t) = g.1 s (47 + t) := ic_upN (by omega)
    simp only [ic_cel, e, h_kind, h_cell, h_heavy, h_moved, h_isHeld, h_isTaken]
    rfl
  · exact ic_upN (by omega)
  · exact ic_upN (by omega)
theorem gX4_moved {g : ic_S} {s : Nat} (hs : s < 3) {t : Nat} (ht : t < 8) : ic_fg 4 5 g (3, s, t) (ic_I (g.1 s (55 + t))) := ⟨ic_memk 3 (by decide) s hs t ht, fun κ => ⟨_, rfl, rfl⟩⟩
theorem pX4_moved {g g1 : ic_S} {v : Int32} {s : Nat} (hs : s < 3) {t : Nat} (ht : t < 8) (h1 : g1 = ic_up g s (55 + t) v) : ic_fp 4 5 g (3, s, t) (ic_I v) g1 := by
  subst h1
  have e : (ic_up g s (55 + t) v).1 s (55 + t) = v := ic_upS
  have ho : ic_own s (55 + t) = (3, s, t) := by
    rcases (show s = 0 ∨ s = 1 ∨ s = 2 by omega) with rfl | rfl | rfl
    all_goals (show (if (55 + t) < 7 then _ else if (55 + t) < 63 then _ else _) = _; rw [if_neg (by omega), if_pos (by omega), show ((55 + t) - 7) % 8 = t by omega])
  refine ⟨ic_memk 3 (by decide) s hs t ht, fun κ => ⟨_, rfl, ?_, by show _ < 8; decide⟩, fun κ y hy hne => ic_oth κ g _ _ v y hy (fun q => hne (q.symm.trans ho)), fun k => ?_, ?_, fun κ => ⟨rfl, rfl⟩⟩
  · show ic_cel κ (ic_up g s (55 + t) v) (3, s, t) = _
    have h_kind : (ic_up g s (55 + t) v).1 s (7 + t) = g.1 s (7 + t) := ic_upN (by omega)
    have h_cell : (ic_up g s (55 + t) v).1 s (15 + t) = g.1 s (15 + t) := ic_upN (by omega)
    have h_heavy : (ic_up g s (55 + t) v).1 s (23 + t) = g.1 s (23 + t) := ic_upN (by omega)
    have h_pulled : (ic_up g s (55 + t) v).1 s (31 + t) = g.1 s (31 + t) := ic_upN (by omega)
    have h_isHeld : (ic_up g s (55 + t) v).1 s (39 + t) = g.1 s (39 + t) := ic_upN (by omega)
    have h_isTaken : (ic_up g s (55 + t) v).1 s (47 + t) = g.1 s (47 + t) := ic_upN (by omega)
    simp only [ic_cel, e, h_kind, h_cell, h_heavy, h_pulled, h_isHeld, h_isTaken]
    rfl
  · exact ic_upN (by omega)
  · exact ic_upN (by omega)
theorem gX4_isHeld {g : ic_S} {s : Nat} (hs : s < 3) {t : Nat} (ht : t < 8) : ic_fg 4 6 g (3, s, t) (ic_I (g.1 s (39 + t))) := ⟨ic_memk 3 (by decide) s hs t ht, fun κ => ⟨_, rfl, rfl⟩⟩
theorem pX4_isHeld {g g1 : ic_S} {v : Int32} {s : Nat} (hs : s < 3) {t : Nat} (ht : t < 8) (hz : ic_nz v = true) (h1 : g1 = ic_up g s (39 + t) v) : ic_fp 4 6 g (3, s, t) (ic_I v) g1 := by
  subst h1
  have e : (ic_up g s (39 + t) v).1 s (39 + t) = v := ic_upS
  have ho : ic_own s (39 + t) = (3, s, t) := by
    rcases (show s = 0 ∨ s = 1 ∨ s = 2 by omega) with rfl | rfl | rfl
    all_goals (show (if (39 + t) < 7 then _ else if (39 + t) < 63 then _ else _) = _; rw [if_neg (by omega), if_pos (by omega), show ((39 + t) - 7) % 8 = t by omega])
  refine ⟨ic_memk 3 (by decide) s hs t ht, fun κ => ⟨_, rfl, ?_, by show _ < 8; decide⟩, fun κ y hy hne => ic_oth κ g _ _ v y hy (fun q => hne (q.symm.trans ho)), fun k => ?_, ?_, fun κ => ic_nzn hz⟩
  · show ic_cel κ (ic_up g s (39 + t) v) (3, s, t) = _
    have h_kind : (ic_up g s (39 + t) v).1 s (7 + t) = g.1 s (7 + t) := ic_upN (by omega)
    have h_cell : (ic_up g s (39 + t) v).1 s (15 + t) = g.1 s (15 + t) := ic_upN (by omega)
    have h_heavy : (ic_up g s (39 + t) v).1 s (23 + t) = g.1 s (23 + t) := ic_upN (by omega)
    have h_pulled : (ic_up g s (39 + t) v).1 s (31 + t) = g.1 s (31 + t) := ic_upN (by omega)
    have h_moved : (ic_up g s (39 + t) v).1 s (55 + t) = g.1 s (55 + t) := ic_upN (by omega)
    have h_isTaken : (ic_up g s (39 + t) v).1 s (47 + t) = g.1 s (47 + t) := ic_upN (by omega)
    simp only [ic_cel, e, h_kind, h_cell, h_heavy, h_pulled, h_moved, h_isTaken]
    rfl
  · exact ic_upN (by omega)
  · exact ic_upN (by omega)
theorem gX4_isTaken {g : ic_S} {s : Nat} (hs : s < 3) {t : Nat} (ht : t < 8) : ic_fg 4 7 g (3, s, t) (ic_I (g.1 s (47 + t))) := ⟨ic_memk 3 (by decide) s hs t ht, fun κ => ⟨_, rfl, rfl⟩⟩
theorem pX4_isTaken {g g1 : ic_S} {v : Int32} {s : Nat} (hs : s < 3) {t : Nat} (ht : t < 8) (hz : ic_nz v = true) (h1 : g1 = ic_up g s (47 + t) v) : ic_fp 4 7 g (3, s, t) (ic_I v) g1 := by
  subst h1
  have e : (ic_up g s (47 + t) v).1 s (47 + t) = v := ic_upS
  have ho : ic_own s (47 + t) = (3, s, t) := by
    rcases (show s = 0 ∨ s = 1 ∨ s = 2 by omega) with rfl | rfl | rfl
    all_goals (show (if (47 + t) < 7 then _ else if (47 + t) < 63 then _ else _) = _; rw [if_neg (by omega), if_pos (by omega), show ((47 + t) - 7) % 8 = t by omega])
  refine ⟨ic_memk 3 (by decide) s hs t ht, fun κ => ⟨_, rfl, ?_, by show _ < 8; decide⟩, fun κ y hy hne => ic_oth κ g _ _ v y hy (fun q => hne (q.symm.trans ho)), fun k => ?_, ?_, fun κ => ic_nzn hz⟩
  · show ic_cel κ (ic_up g s (47 + t) v) (3, s, t) = _
    have h_kind : (ic_up g s (47 + t) v).1 s (7 + t) = g.1 s (7 + t) := ic_upN (by omega)
    have h_cell : (ic_up g s (47 + t) v).1 s (15 + t) = g.1 s (15 + t) := ic_upN (by omega)
    have h_heavy : (ic_up g s (47 + t) v).1 s (23 + t) = g.1 s (23 + t) := ic_upN (by omega)
    have h_pulled : (ic_up g s (47 + t) v).1 s (31 + t) = g.1 s (31 + t) := ic_upN (by omega)
    have h_moved : (ic_up g s (47 + t) v).1 s (55 + t) = g.1 s (55 + t) := ic_upN (by omega)
    have h_isHeld : (ic_up g s (47 + t) v).1 s (39 + t) = g.1 s (39 + t) := ic_upN (by omega)
    simp only [ic_cel, e, h_kind, h_cell, h_heavy, h_pulled, h_moved, h_isHeld]
    rfl
  · exact ic_upN (by omega)
  · exact ic_upN (by omega)
theorem gX3_size {g : ic_S} : ic_fg 3 0 g (5, 0, 0) (ic_I (g.1 8 0)) := ⟨ic_memk 5 (by decide) 0 (by decide) 0 (by decide), fun κ => ⟨_, rfl, rfl⟩⟩
theorem pX3_size {g g1 : ic_S} {v : Int32} (h1 : g1 = ic_up g 8 0 v) : ic_fp 3 0 g (5, 0, 0) (ic_I v) g1 := by
  subst h1
  have e : (ic_up g 8 0 v).1 8 0 = v := ic_upS
  have ho : ic_own 8 0 = (5, 0, 0) := by
    rfl
  refine ⟨ic_memk 5 (by decide) 0 (by decide) 0 (by decide), fun κ => ⟨_, rfl, ?_, by show _ < 2; decide⟩, fun κ y hy hne => ic_oth κ g _ _ v y hy (fun q => hne (q.symm.trans ho)), fun k => ?_, ?_, fun κ => ⟨rfl, rfl⟩⟩
  · show ic_cel κ (ic_up g 8 0 v) (5, 0, 0) = _
    simp only [ic_cel, e]
    rfl
  · exact ic_upN (by omega)
  · exact ic_upN (by omega)
theorem gX3_bytes {g : ic_S} : ic_fg 3 1 g (5, 0, 0) (ic_R 6 0 0) := ⟨ic_memk 5 (by decide) 0 (by decide) 0 (by decide), fun κ => ⟨_, rfl, by rw [ic_cvk (show (6 : Nat) ≠ 26 by decide)]; rfl⟩⟩
theorem gX5_tape {g : ic_S} : ic_fg 5 0 g (7, 0, 0) (ic_R 5 0 0) := ⟨ic_memk 7 (by decide) 0 (by decide) 0 (by decide), fun κ => ⟨_, rfl, by rw [ic_cvk (show (5 : Nat) ≠ 26 by decide)]; rfl⟩⟩
theorem gX5_size {g : ic_S} : ic_fg 5 1 g (7, 0, 0) (ic_I (g.1 10 0)) := ⟨ic_memk 7 (by decide) 0 (by decide) 0 (by decide), fun κ => ⟨_, rfl, rfl⟩⟩
theorem pX5_size {g g1 : ic_S} {v : Int32} (h1 : g1 = ic_up g 10 0 v) : ic_fp 5 1 g (7, 0, 0) (ic_I v) g1 := by
  subst h1
  have e : (ic_up g 10 0 v).1 10 0 = v := ic_upS
  have ho : ic_own 10 0 = (7, 0, 0) := by
    rfl
  refine ⟨ic_memk 7 (by decide) 0 (by decide) 0 (by decide), fun κ => ⟨_, rfl, ?_, by show _ < 5; decide⟩, fun κ y hy hne => ic_oth κ g _ _ v y hy (fun q => hne (q.symm.trans ho)), fun k => ?_, ?_, fun κ => ⟨rfl, rfl⟩⟩
  · show ic_cel κ (ic_up g 10 0 v) (7, 0, 0) = _
    simp only [ic_cel, e]
    rfl
  · exact ic_upN (by omega)
  · exact ic_upN (by omega)
theorem gX5_sorts {g : ic_S} : ic_fg 5 2 g (7, 0, 0) (ic_R 8 0 0) := ⟨ic_memk 7 (by decide) 0 (by decide) 0 (by decide), fun κ => ⟨_, rfl, by rw [ic_cvk (show (8 : Nat) ≠ 26 by decide)]; rfl⟩⟩
theorem gX5_places {g : ic_S} : ic_fg 5 3 g (7, 0, 0) (ic_R 9 0 0) := ⟨ic_memk 7 (by decide) 0 (by decide) 0 (by decide), fun κ => ⟨_, rfl, by rw [ic_cvk (show (9 : Nat) ≠ 26 by decide)]; rfl⟩⟩
theorem gX5_values {g : ic_S} : ic_fg 5 4 g (7, 0, 0) (ic_R 10 0 0) := ⟨ic_memk 7 (by decide) 0 (by decide) 0 (by decide), fun κ => ⟨_, rfl, by rw [ic_cvk (show (10 : Nat) ≠ 26 by decide)]; rfl⟩⟩
theorem gX0_tokens {g : ic_S} : ic_fg 0 0 g (11, 0, 0) (ic_R 7 0 0) := ⟨ic_memk 11 (by decide) 0 (by decide) 0 (by decide), fun κ => ⟨_, rfl, by rw [ic_cvk (show (7 : Nat) ≠ 26 by decide)]; rfl⟩⟩
theorem gX0_street {g : ic_S} : ic_fg 0 1 g (11, 0, 0) (ic_R 1 1 0) := ⟨ic_memk 11 (by decide) 0 (by decide) 0 (by decide), fun κ => ⟨_, rfl, by rw [ic_cvk (show (1 : Nat) ≠ 26 by decide)]; rfl⟩⟩
theorem gX0_next {g : ic_S} : ic_fg 0 2 g (11, 0, 0) (ic_I (g.1 14 0)) := ⟨ic_memk 11 (by decide) 0 (by decide) 0 (by decide), fun κ => ⟨_, rfl, rfl⟩⟩
theorem pX0_next {g g1 : ic_S} {v : Int32} (h1 : g1 = ic_up g 14 0 v) : ic_fp 0 2 g (11, 0, 0) (ic_I v) g1 := by
  subst h1
  have e : (ic_up g 14 0 v).1 14 0 = v := ic_upS
  have ho : ic_own 14 0 = (11, 0, 0) := by
    rfl
  refine ⟨ic_memk 11 (by decide) 0 (by decide) 0 (by decide), fun κ => ⟨_, rfl, ?_, by show _ < 4; decide⟩, fun κ y hy hne => ic_oth κ g _ _ v y hy (fun q => hne (q.symm.trans ho)), fun k => ?_, ?_, fun κ => ⟨rfl, rfl⟩⟩
  · show ic_cel κ (ic_up g 14 0 v) (11, 0, 0) = _
    have h_isFaulty : (ic_up g 14 0 v).1 14 1 = g.1 14 1 := ic_upN (by omega)
    simp only [ic_cel, e, h_isFaulty]
    rfl
  · exact ic_upN (by omega)
  · exact ic_upN (by omega)
theorem gX0_isFaulty {g : ic_S} : ic_fg 0 3 g (11, 0, 0) (ic_I (g.1 14 1)) := ⟨ic_memk 11 (by decide) 0 (by decide) 0 (by decide), fun κ => ⟨_, rfl, rfl⟩⟩
theorem pX0_isFaulty {g g1 : ic_S} {v : Int32} (hz : ic_nz v = true) (h1 : g1 = ic_up g 14 1 v) : ic_fp 0 3 g (11, 0, 0) (ic_I v) g1 := by
  subst h1
  have e : (ic_up g 14 1 v).1 14 1 = v := ic_upS
  have ho : ic_own 14 1 = (11, 0, 0) := by
    rfl
  refine ⟨ic_memk 11 (by decide) 0 (by decide) 0 (by decide), fun κ => ⟨_, rfl, ?_, by show _ < 4; decide⟩, fun κ y hy hne => ic_oth κ g _ _ v y hy (fun q => hne (q.symm.trans ho)), fun k => ?_, ?_, fun κ => ic_nzn hz⟩
  · show ic_cel κ (ic_up g 14 1 v) (11, 0, 0) = _
    have h_next : (ic_up g 14 1 v).1 14 0 = g.1 14 0 := ic_upN (by omega)
    simp only [ic_cel, e, h_next]
    rfl
  · exact ic_upN (by omega)
  · exact ic_upN (by omega)
theorem gX1_bits {g : ic_S} {s : Nat} (hs : s < 4) : ic_fg 1 0 g (13, s, 0) (ic_I (g.1 (15 + s) 0)) := ⟨ic_memk 13 (by decide) s hs 0 (by decide), fun κ => ⟨_, rfl, rfl⟩⟩
theorem pX1_bits {g g1 : ic_S} {v : Int32} {s : Nat} (hs : s < 4) (h1 : g1 = ic_up g (15 + s) 0 v) : ic_fp 1 0 g (13, s, 0) (ic_I v) g1 := by
  subst h1
  have e : (ic_up g (15 + s) 0 v).1 (15 + s) 0 = v := ic_upS
  have ho : ic_own (15 + s) 0 = (13, s, 0) := by
    rcases (show s = 0 ∨ s = 1 ∨ s = 2 ∨ s = 3 by omega) with rfl | rfl | rfl | rfl <;> rfl
  refine ⟨ic_memk 13 (by decide) s hs 0 (by decide), fun κ => ⟨_, rfl, ?_, by show _ < 3; decide⟩, fun κ y hy hne => ic_oth κ g _ _ v y hy (fun q => hne (q.symm.trans ho)), fun k => ?_, ?_, fun κ => ⟨rfl, rfl⟩⟩
  · show ic_cel κ (ic_up g (15 + s) 0 v) (13, s, 0) = _
    have h_size : (ic_up g (15 + s) 0 v).1 (15 + s) 1 = g.1 (15 + s) 1 := ic_upN (by omega)
    simp only [ic_cel, e, h_size]
    rfl
  · exact ic_upN (by omega)
  · exact ic_upN (by omega)
theorem gX1_size {g : ic_S} {s : Nat} (hs : s < 4) : ic_fg 1 1 g (13, s, 0) (ic_I (g.1 (15 + s) 1)) := ⟨ic_memk 13 (by decide) s hs 0 (by decide), fun κ => ⟨_, rfl, rfl⟩⟩
theorem pX1_size {g g1 : ic_S} {v : Int32} {s : Nat} (hs : s < 4) (h1 : g1 = ic_up g (15 + s) 1 v) : ic_fp 1 1 g (13, s, 0) (ic_I v) g1 := by
  subst h1
  have e : (ic_up g (15 + s) 1 v).1 (15 + s) 1 = v := ic_upS
  have ho : ic_own (15 + s) 1 = (13, s, 0) := by
    rcases (show s = 0 ∨ s = 1 ∨ s = 2 ∨ s = 3 by omega) with rfl | rfl | rfl | rfl <;> rfl
  refine ⟨ic_memk 13 (by decide) s hs 0 (by decide), fun κ => ⟨_, rfl, ?_, by show _ < 3; decide⟩, fun κ y hy hne => ic_oth κ g _ _ v y hy (fun q => hne (q.symm.trans ho)), fun k => ?_, ?_, fun κ => ⟨rfl, rfl⟩⟩
  · show ic_cel κ (ic_up g (15 + s) 1 v) (13, s, 0) = _
    have h_bits : (ic_up g (15 + s) 1 v).1 (15 + s) 0 = g.1 (15 + s) 0 := ic_upN (by omega)
    simp only [ic_cel, e, h_bits]
    rfl
  · exact ic_upN (by omega)
  · exact ic_upN (by omega)
theorem gX1_numbers {g : ic_S} {s : Nat} (hs : s < 4) : ic_fg 1 2 g (13, s, 0) (ic_R 14 s 0) := ⟨ic_memk 13 (by decide) s hs 0 (by decide), fun κ => ⟨_, rfl, by rw [ic_cvk (show (14 : Nat) ≠ 26 by decide)]; rfl⟩⟩
theorem gX7_d {g : ic_S} : ic_fg 7 0 g (16, 0, 0) (ic_R 17 0 0) := ⟨ic_memk 16 (by decide) 0 (by decide) 0 (by decide), fun κ => ⟨_, rfl, by rw [ic_cvk (show (17 : Nat) ≠ 26 by decide)]; rfl⟩⟩
theorem gX7_e {g : ic_S} : ic_fg 7 1 g (16, 0, 0) (ic_R 17 1 0) := ⟨ic_memk 16 (by decide) 0 (by decide) 0 (by decide), fun κ => ⟨_, rfl, by rw [ic_cvk (show (17 : Nat) ≠ 26 by decide)]; rfl⟩⟩
theorem gX7_aside {g : ic_S} : ic_fg 7 2 g (16, 0, 0) (ic_R 17 2 0) := ⟨ic_memk 16 (by decide) 0 (by decide) 0 (by decide), fun κ => ⟨_, rfl, by rw [ic_cvk (show (17 : Nat) ≠ 26 by decide)]; rfl⟩⟩
theorem gX7_kept {g : ic_S} : ic_fg 7 3 g (16, 0, 0) (ic_R 17 3 0) := ⟨ic_memk 16 (by decide) 0 (by decide) 0 (by decide), fun κ => ⟨_, rfl, by rw [ic_cvk (show (17 : Nat) ≠ 26 by decide)]; rfl⟩⟩
theorem gX7_isKept {g : ic_S} : ic_fg 7 4 g (16, 0, 0) (ic_I (g.1 24 0)) := ⟨ic_memk 16 (by decide) 0 (by decide) 0 (by decide), fun κ => ⟨_, rfl, rfl⟩⟩
theorem pX7_isKept {g g1 : ic_S} {v : Int32} (hz : ic_nz v = true) (h1 : g1 = ic_up g 24 0 v) : ic_fp 7 4 g (16, 0, 0) (ic_I v) g1 := by
  subst h1
  have e : (ic_up g 24 0 v).1 24 0 = v := ic_upS
  have ho : ic_own 24 0 = (16, 0, 0) := by
    rfl
  refine ⟨ic_memk 16 (by decide) 0 (by decide) 0 (by decide), fun κ => ⟨_, rfl, ?_, by show _ < 17; decide⟩, fun κ y hy hne => ic_oth κ g _ _ v y hy (fun q => hne (q.symm.trans ho)), fun k => ?_, ?_, fun κ => ic_nzn hz⟩
  · show ic_cel κ (ic_up g 24 0 v) (16, 0, 0) = _
    have h_taped : (ic_up g 24 0 v).1 24 1 = g.1 24 1 := ic_upN (by omega)
    have h_at : (ic_up g 24 0 v).1 24 2 = g.1 24 2 := ic_upN (by omega)
    have h_sort : (ic_up g 24 0 v).1 24 3 = g.1 24 3 := ic_upN (by omega)
    have h_from : (ic_up g 24 0 v).1 24 4 = g.1 24 4 := ic_upN (by omega)
    have h_fault : (ic_up g 24 0 v).1 24 5 = g.1 24 5 := ic_upN (by omega)
    simp only [ic_cel, e, h_taped, h_at, h_sort, h_from, h_fault]
    rfl
  · exact ic_upN (by omega)
  · exact ic_upN (by omega)
theorem gX7_found {g : ic_S} : ic_fg 7 5 g (16, 0, 0) (ic_R 18 0 0) := ⟨ic_memk 16 (by decide) 0 (by decide) 0 (by decide), fun κ => ⟨_, rfl, by rw [ic_cvk (show (18 : Nat) ≠ 26 by decide)]; rfl⟩⟩
theorem gX7_tape {g : ic_S} : ic_fg 7 6 g (16, 0, 0) (ic_R 19 0 0) := ⟨ic_memk 16 (by decide) 0 (by decide) 0 (by decide), fun κ => ⟨_, rfl, by rw [ic_cvk (show (19 : Nat) ≠ 26 by decide)]; rfl⟩⟩
theorem gX7_taped {g : ic_S} : ic_fg 7 7 g (16, 0, 0) (ic_I (g.1 24 1)) := ⟨ic_memk 16 (by decide) 0 (by decide) 0 (by decide), fun κ => ⟨_, rfl, rfl⟩⟩
theorem pX7_taped {g g1 : ic_S} {v : Int32} (h1 : g1 = ic_up g 24 1 v) : ic_fp 7 7 g (16, 0, 0) (ic_I v) g1 := by
  subst h1
  have e : (ic_up g 24 1 v).1 24 1 = v := ic_upS
  have ho : ic_own 24 1 = (16, 0, 0) := by
    rfl
  refine ⟨ic_memk 16 (by decide) 0 (by decide) 0 (by decide), fun κ => ⟨_, rfl, ?_, by show _ < 17; decide⟩, fun κ y hy hne => ic_oth κ g _ _ v y hy (fun q => hne (q.symm.trans ho)), fun k => ?_, ?_, fun κ => ⟨rfl, rfl⟩⟩
  · show ic_cel κ (ic_up g 24 1 v) (16, 0, 0) = _
    have h_isKept : (ic_up g 24 1 v).1 24 0 = g.1 24 0 := ic_upN (by omega)
    have h_at : (ic_up g 24 1 v).1 24 2 = g.1 24 2 := ic_upN (by omega)
    have h_sort : (ic_up g 24 1 v).1 24 3 = g.1 24 3 := ic_upN (by omega)
    have h_from : (ic_up g 24 1 v).1 24 4 = g.1 24 4 := ic_upN (by omega)
    have h_fault : (ic_up g 24 1 v).1 24 5 = g.1 24 5 := ic_upN (by omega)
    simp only [ic_cel, e, h_isKept, h_at, h_sort, h_from, h_fault]
    rfl
  · exact ic_upN (by omega)
  · exact ic_upN (by omega)
theorem gX7_at {g : ic_S} : ic_fg 7 8 g (16, 0, 0) (ic_I (g.1 24 2)) := ⟨ic_memk 16 (by decide) 0 (by decide) 0 (by decide), fun κ => ⟨_, rfl, rfl⟩⟩
theorem pX7_at {g g1 : ic_S} {v : Int32} (h1 : g1 = ic_up g 24 2 v) : ic_fp 7 8 g (16, 0, 0) (ic_I v) g1 := by
  subst h1
  have e : (ic_up g 24 2 v).1 24 2 = v := ic_upS
  have ho : ic_own 24 2 = (16, 0, 0) := by
    rfl
  refine ⟨ic_memk 16 (by decide) 0 (by decide) 0 (by decide), fun κ => ⟨_, rfl, ?_, by show _ < 17; decide⟩, fun κ y hy hne => ic_oth κ g _ _ v y hy (fun q => hne (q.symm.trans ho)), fun k => ?_, ?_, fun κ => ⟨rfl, rfl⟩⟩
  · show ic_cel κ (ic_up g 24 2 v) (16, 0, 0) = _
    have h_isKept : (ic_up g 24 2 v).1 24 0 = g.1 24 0 := ic_upN (by omega)
    have h_taped : (ic_up g 24 2 v).1 24 1 = g.1 24 1 := ic_upN (by omega)
    have h_sort : (ic_up g 24 2 v).1 24 3 = g.1 24 3 := ic_upN (by omega)
    have h_from : (ic_up g 24 2 v).1 24 4 = g.1 24 4 := ic_upN (by omega)
    have h_fault : (ic_up g 24 2 v).1 24 5 = g.1 24 5 := ic_upN (by omega)
    simp only [ic_cel, e, h_isKept, h_taped, h_sort, h_from, h_fault]
    rfl
  · exact ic_upN (by omega)
  · exact ic_upN (by omega)
theorem gX7_sort {g : ic_S} : ic_fg 7 9 g (16, 0, 0) (ic_I (g.1 24 3)) := ⟨ic_memk 16 (by decide) 0 (by decide) 0 (by decide), fun κ => ⟨_, rfl, rfl⟩⟩
theorem pX7_sort {g g1 : ic_S} {v : Int32} (h1 : g1 = ic_up g 24 3 v) : ic_fp 7 9 g (16, 0, 0) (ic_I v) g1 := by
  subst h1
  have e : (ic_up g 24 3 v).1 24 3 = v := ic_upS
  have ho : ic_own 24 3 = (16, 0, 0) := by
    rfl
  refine ⟨ic_memk 16 (by decide) 0 (by decide) 0 (by decide), fun κ => ⟨_, rfl, ?_, by show _ < 17; decide⟩, fun κ y hy hne => ic_oth κ g _ _ v y hy (fun q => hne (q.symm.trans ho)), fun k => ?_, ?_, fun κ => ⟨rfl, rfl⟩⟩
  · show ic_cel κ (ic_up g 24 3 v) (16, 0, 0) = _
    have h_isKept : (ic_up g 24 3 v).1 24 0 = g.1 24 0 := ic_upN (by omega)
    have h_taped : (ic_up g 24 3 v).1 24 1 = g.1 24 1 := ic_upN (by omega)
    have h_at : (ic_up g 24 3 v).1 24 2 = g.1 24 2 := ic_upN (by omega)
    have h_from : (ic_up g 24 3 v).1 24 4 = g.1 24 4 := ic_upN (by omega)
    have h_fault : (ic_up g 24 3 v).1 24 5 = g.1 24 5 := ic_upN (by omega)
    simp only [ic_cel, e, h_isKept, h_taped, h_at, h_from, h_fault]
    rfl
  · exact ic_upN (by omega)
  · exact ic_upN (by omega)
theorem gX7_from {g : ic_S} : ic_fg 7 10 g (16, 0, 0) (ic_I (g.1 24 4)) := ⟨ic_memk 16 (by decide) 0 (by decide) 0 (by decide), fun κ => ⟨_, rfl, rfl⟩⟩
theorem pX7_from {g g1 : ic_S} {v : Int32} (h1 : g1 = ic_up g 24 4 v) : ic_fp 7 10 g (16, 0, 0) (ic_I v) g1 := by
  subst h1
  have e : (ic_up g 24 4 v).1 24 4 = v := ic_upS
  have ho : ic_own 24 4 = (16, 0, 0) := by
    rfl
  refine ⟨ic_memk 16 (by decide) 0 (by decide) 0 (by decide), fun κ => ⟨_, rfl, ?_, by show _ < 17; decide⟩, fun κ y hy hne => ic_oth κ g _ _ v y hy (fun q => hne (q.symm.trans ho)), fun k => ?_, ?_, fun κ => ⟨rfl, rfl⟩⟩
  · show ic_cel κ (ic_up g 24 4 v) (16, 0, 0) = _
    have h_isKept : (ic_up g 24 4 v).1 24 0 = g.1 24 0 := ic_upN (by omega)
    have h_taped : (ic_up g 24 4 v).1 24 1 = g.1 24 1 := ic_upN (by omega)
    have h_at : (ic_up g 24 4 v).1 24 2 = g.1 24 2 := ic_upN (by omega)
    have h_sort : (ic_up g 24 4 v).1 24 3 = g.1 24 3 := ic_upN (by omega)
    have h_fault : (ic_up g 24 4 v).1 24 5 = g.1 24 5 := ic_upN (by omega)
    simp only [ic_cel, e, h_isKept, h_taped, h_at, h_sort, h_fault]
    rfl
  · exact ic_upN (by omega)
  · exact ic_upN (by omega)
theorem gX7_value {g : ic_S} : ic_fg 7 11 g (16, 0, 0) (ic_J g.2) := ⟨ic_memk 16 (by decide) 0 (by decide) 0 (by decide), fun κ => ⟨_, rfl, rfl⟩⟩
theorem pX7_value {g g1 : ic_S} {v : Int64} (h1 : g1 = ic_upl g v) : ic_fp 7 11 g (16, 0, 0) (ic_J v) g1 := by
  subst h1
  exact ⟨ic_memk 16 (by decide) 0 (by decide) 0 (by decide), fun κ => ⟨_, rfl, rfl, by show _ < 17; decide⟩, fun κ y hy hne => ic_oth_l κ g v y hy hne, fun k => rfl, rfl, fun κ => ⟨rfl, rfl⟩⟩
theorem gX7_fault {g : ic_S} : ic_fg 7 12 g (16, 0, 0) (ic_I (g.1 24 5)) := ⟨ic_memk 16 (by decide) 0 (by decide) 0 (by decide), fun κ => ⟨_, rfl, rfl⟩⟩
theorem pX7_fault {g g1 : ic_S} {v : Int32} (h1 : g1 = ic_up g 24 5 v) : ic_fp 7 12 g (16, 0, 0) (ic_I v) g1 := by
  subst h1
  have e : (ic_up g 24 5 v).1 24 5 = v := ic_upS
  have ho : ic_own 24 5 = (16, 0, 0) := by
    rfl
  refine ⟨ic_memk 16 (by decide) 0 (by decide) 0 (by decide), fun κ => ⟨_, rfl, ?_, by show _ < 17; decide⟩, fun κ y hy hne => ic_oth κ g _ _ v y hy (fun q => hne (q.symm.trans ho)), fun k => ?_, ?_, fun κ => ⟨rfl, rfl⟩⟩
  · show ic_cel κ (ic_up g 24 5 v) (16, 0, 0) = _
    have h_isKept : (ic_up g 24 5 v).1 24 0 = g.1 24 0 := ic_upN (by omega)
    have h_taped : (ic_up g 24 5 v).1 24 1 = g.1 24 1 := ic_upN (by omega)
    have h_at : (ic_up g 24 5 v).1 24 2 = g.1 24 2 := ic_upN (by omega)
    have h_sort : (ic_up g 24 5 v).1 24 3 = g.1 24 3 := ic_upN (by omega)
    have h_from : (ic_up g 24 5 v).1 24 4 = g.1 24 4 := ic_upN (by omega)
    simp only [ic_cel, e, h_isKept, h_taped, h_at, h_sort, h_from]
    rfl
  · exact ic_upN (by omega)
  · exact ic_upN (by omega)
theorem gX7_bitsOf {g : ic_S} : ic_fg 7 13 g (16, 0, 0) (ic_R 20 0 0) := ⟨ic_memk 16 (by decide) 0 (by decide) 0 (by decide), fun κ => ⟨_, rfl, by rw [ic_cvk (show (20 : Nat) ≠ 26 by decide)]; rfl⟩⟩
theorem gX7_sizeOf {g : ic_S} : ic_fg 7 14 g (16, 0, 0) (ic_R 21 0 0) := ⟨ic_memk 16 (by decide) 0 (by decide) 0 (by decide), fun κ => ⟨_, rfl, by rw [ic_cvk (show (21 : Nat) ≠ 26 by decide)]; rfl⟩⟩
theorem gX7_number {g : ic_S} : ic_fg 7 15 g (16, 0, 0) (ic_R 22 0 0) := ⟨ic_memk 16 (by decide) 0 (by decide) 0 (by decide), fun κ => ⟨_, rfl, by rw [ic_cvk (show (22 : Nat) ≠ 26 by decide)]; rfl⟩⟩
theorem gX7_passing {g : ic_S} : ic_fg 7 16 g (16, 0, 0) (ic_R 23 0 0) := ⟨ic_memk 16 (by decide) 0 (by decide) 0 (by decide), fun κ => ⟨_, rfl, by rw [ic_cvk (show (23 : Nat) ≠ 26 by decide)]; rfl⟩⟩
theorem a4 {g : ic_S} {s : Nat} (hs : s < 3) : ic_ai 0 10 g (4, s, 0) (fun j => g.1 s (63 + j)) := ⟨ic_memk 4 (by decide) s hs 0 (by decide), by decide, fun κ => rfl⟩
theorem w4 {g g1 : ic_S} {i : Nat} {v : Int32} {s : Nat} (hs : s < 3) (h1 : g1 = ic_up g s (63 + i) v) : ic_ap 0 10 g (4, s, 0) (fun j => g.1 s (63 + j)) i v g1 := by
  subst h1
  have ho : ic_own s (63 + i) = (4, s, 0) := by
    rcases (show s = 0 ∨ s = 1 ∨ s = 2 by omega) with rfl | rfl | rfl
    all_goals (show (if 63 + i < 7 then _ else if 63 + i < 63 then _ else _) = _; rw [if_neg (by omega), if_neg (by omega)])
  refine ⟨ic_memk 4 (by decide) s hs 0 (by decide), fun κ => ⟨rfl, ?_⟩, fun κ y hy hne => ic_oth κ g _ _ v y hy (fun q => hne (q.symm.trans ho)), fun k => ?_, ?_⟩
  · show Sum.inl (_, _, Sum.inl (fun j => (ic_up g s (63 + i) v).1 s (63 + j))) = _
    have e : (fun j => (ic_up g s (63 + i) v).1 s (63 + j)) = upd (fun j => g.1 s (63 + j)) i v := by
      funext j
      show _ = (if j = i then v else _)
      by_cases hj : j = i
      · rw [if_pos hj, hj]; exact ic_upS
      · rw [if_neg hj]; exact ic_upN (fun q => hj (by omega))
    rw [e]
  · exact ic_upN (by omega)
  · exact ic_upN (by omega)
theorem a6 {g : ic_S} : ic_ai 0 120 g (6, 0, 0) (fun j => g.1 9 (0 + j)) := ⟨ic_memk 6 (by decide) 0 (by decide) 0 (by decide), by decide, fun κ => rfl⟩
theorem w6 {g g1 : ic_S} {i : Nat} {v : Int32} (h1 : g1 = ic_up g 9 (0 + i) v) : ic_ap 0 120 g (6, 0, 0) (fun j => g.1 9 (0 + j)) i v g1 := by
  subst h1
  have ho : ic_own 9 (0 + i) = (6, 0, 0) := by
    rfl
  refine ⟨ic_memk 6 (by decide) 0 (by decide) 0 (by decide), fun κ => ⟨rfl, ?_⟩, fun κ y hy hne => ic_oth κ g _ _ v y hy (fun q => hne (q.symm.trans ho)), fun k => ?_, ?_⟩
  · show Sum.inl (_, _, Sum.inl (fun j => (ic_up g 9 (0 + i) v).1 9 (0 + j))) = _
    have e : (fun j => (ic_up g 9 (0 + i) v).1 9 (0 + j)) = upd (fun j => g.1 9 (0 + j)) i v := by
      funext j
      show _ = (if j = i then v else _)
      by_cases hj : j = i
      · rw [if_pos hj, hj]; exact ic_upS
      · rw [if_neg hj]; exact ic_upN (fun q => hj (by omega))
    rw [e]
  · exact ic_upN (by omega)
  · exact ic_upN (by omega)
theorem a8 {g : ic_S} : ic_ai 0 121 g (8, 0, 0) (fun j => g.1 11 (0 + j)) := ⟨ic_memk 8 (by decide) 0 (by decide) 0 (by decide), by decide, fun κ => rfl⟩
theorem w8 {g g1 : ic_S} {i : Nat} {v : Int32} (h1 : g1 = ic_up g 11 (0 + i) v) : ic_ap 0 121 g (8, 0, 0) (fun j => g.1 11 (0 + j)) i v g1 := by
  subst h1
  have ho : ic_own 11 (0 + i) = (8, 0, 0) := by
    rfl
  refine ⟨ic_memk 8 (by decide) 0 (by decide) 0 (by decide), fun κ => ⟨rfl, ?_⟩, fun κ y hy hne => ic_oth κ g _ _ v y hy (fun q => hne (q.symm.trans ho)), fun k => ?_, ?_⟩
  · show Sum.inl (_, _, Sum.inl (fun j => (ic_up g 11 (0 + i) v).1 11 (0 + j))) = _
    have e : (fun j => (ic_up g 11 (0 + i) v).1 11 (0 + j)) = upd (fun j => g.1 11 (0 + j)) i v := by
      funext j
      show _ = (if j = i then v else _)
      by_cases hj : j = i
      · rw [if_pos hj, hj]; exact ic_upS
      · rw [if_neg hj]; exact ic_upN (fun q => hj (by omega))
    rw [e]
  · exact ic_upN (by omega)
  · exact ic_upN (by omega)
theorem a9 {g : ic_S} : ic_ai 0 121 g (9, 0, 0) (fun j => g.1 12 (0 + j)) := ⟨ic_memk 9 (by decide) 0 (by decide) 0 (by decide), by decide, fun κ => rfl⟩
theorem w9 {g g1 : ic_S} {i : Nat} {v : Int32} (h1 : g1 = ic_up g 12 (0 + i) v) : ic_ap 0 121 g (9, 0, 0) (fun j => g.1 12 (0 + j)) i v g1 := by
  subst h1
  have ho : ic_own 12 (0 + i) = (9, 0, 0) := by
    rfl
  refine ⟨ic_memk 9 (by decide) 0 (by decide) 0 (by decide), fun κ => ⟨rfl, ?_⟩, fun κ y hy hne => ic_oth κ g _ _ v y hy (fun q => hne (q.symm.trans ho)), fun k => ?_, ?_⟩
  · show Sum.inl (_, _, Sum.inl (fun j => (ic_up g 12 (0 + i) v).1 12 (0 + j))) = _
    have e : (fun j => (ic_up g 12 (0 + i) v).1 12 (0 + j)) = upd (fun j => g.1 12 (0 + j)) i v := by
      funext j
      show _ = (if j = i then v else _)
      by_cases hj : j = i
      · rw [if_pos hj, hj]; exact ic_upS
      · rw [if_neg hj]; exact ic_upN (fun q => hj (by omega))
    rw [e]
  · exact ic_upN (by omega)
  · exact ic_upN (by omega)
theorem a10 {g : ic_S} : ic_ai 0 121 g (10, 0, 0) (fun j => g.1 13 (0 + j)) := ⟨ic_memk 10 (by decide) 0 (by decide) 0 (by decide), by decide, fun κ => rfl⟩
theorem w10 {g g1 : ic_S} {i : Nat} {v : Int32} (h1 : g1 = ic_up g 13 (0 + i) v) : ic_ap 0 121 g (10, 0, 0) (fun j => g.1 13 (0 + j)) i v g1 := by
  subst h1
  have ho : ic_own 13 (0 + i) = (10, 0, 0) := by
    rfl
  refine ⟨ic_memk 10 (by decide) 0 (by decide) 0 (by decide), fun κ => ⟨rfl, ?_⟩, fun κ y hy hne => ic_oth κ g _ _ v y hy (fun q => hne (q.symm.trans ho)), fun k => ?_, ?_⟩
  · show Sum.inl (_, _, Sum.inl (fun j => (ic_up g 13 (0 + i) v).1 13 (0 + j))) = _
    have e : (fun j => (ic_up g 13 (0 + i) v).1 13 (0 + j)) = upd (fun j => g.1 13 (0 + j)) i v := by
      funext j
      show _ = (if j = i then v else _)
      by_cases hj : j = i
      · rw [if_pos hj, hj]; exact ic_upS
      · rw [if_neg hj]; exact ic_upN (fun q => hj (by omega))
    rw [e]
  · exact ic_upN (by omega)
  · exact ic_upN (by omega)
theorem a14 {g : ic_S} {s : Nat} (hs : s < 4) : ic_ai 0 40 g (14, s, 0) (fun j => g.1 (19 + s) (0 + j)) := ⟨ic_memk 14 (by decide) s hs 0 (by decide), by decide, fun κ => rfl⟩
theorem w14 {g g1 : ic_S} {i : Nat} {v : Int32} {s : Nat} (hs : s < 4) (h1 : g1 = ic_up g (19 + s) (0 + i) v) : ic_ap 0 40 g (14, s, 0) (fun j => g.1 (19 + s) (0 + j)) i v g1 := by
  subst h1
  have ho : ic_own (19 + s) (0 + i) = (14, s, 0) := by
    rcases (show s = 0 ∨ s = 1 ∨ s = 2 ∨ s = 3 by omega) with rfl | rfl | rfl | rfl <;> rfl
  refine ⟨ic_memk 14 (by decide) s hs 0 (by decide), fun κ => ⟨rfl, ?_⟩, fun κ y hy hne => ic_oth κ g _ _ v y hy (fun q => hne (q.symm.trans ho)), fun k => ?_, ?_⟩
  · show Sum.inl (_, _, Sum.inl (fun j => (ic_up g (19 + s) (0 + i) v).1 (19 + s) (0 + j))) = _
    have e : (fun j => (ic_up g (19 + s) (0 + i) v).1 (19 + s) (0 + j)) = upd (fun j => g.1 (19 + s) (0 + j)) i v := by
      funext j
      show _ = (if j = i then v else _)
      by_cases hj : j = i
      · rw [if_pos hj, hj]; exact ic_upS
      · rw [if_neg hj]; exact ic_upN (fun q => hj (by omega))
    rw [e]
  · exact ic_upN (by omega)
  · exact ic_upN (by omega)
theorem a15 {g : ic_S} : ic_ai 0 7 g (15, 0, 0) (fun j => g.1 23 (0 + j)) := ⟨ic_memk 15 (by decide) 0 (by decide) 0 (by decide), by decide, fun κ => rfl⟩
theorem w15 {g g1 : ic_S} {i : Nat} {v : Int32} (h1 : g1 = ic_up g 23 (0 + i) v) : ic_ap 0 7 g (15, 0, 0) (fun j => g.1 23 (0 + j)) i v g1 := by
  subst h1
  have ho : ic_own 23 (0 + i) = (15, 0, 0) := by
    rfl
  refine ⟨ic_memk 15 (by decide) 0 (by decide) 0 (by decide), fun κ => ⟨rfl, ?_⟩, fun κ y hy hne => ic_oth κ g _ _ v y hy (fun q => hne (q.symm.trans ho)), fun k => ?_, ?_⟩
  · show Sum.inl (_, _, Sum.inl (fun j => (ic_up g 23 (0 + i) v).1 23 (0 + j))) = _
    have e : (fun j => (ic_up g 23 (0 + i) v).1 23 (0 + j)) = upd (fun j => g.1 23 (0 + j)) i v := by
      funext j
      show _ = (if j = i then v else _)
      by_cases hj : j = i
      · rw [if_pos hj, hj]; exact ic_upS
      · rw [if_neg hj]; exact ic_upN (fun q => hj (by omega))
    rw [e]
  · exact ic_upN (by omega)
  · exact ic_upN (by omega)
theorem a17 {g : ic_S} {s : Nat} (hs : s < 4) : ic_ai 0 73 g (17, s, 0) (fun j => g.1 (3 + s) (0 + j)) := ⟨ic_memk 17 (by decide) s hs 0 (by decide), by decide, fun κ => rfl⟩
theorem w17 {g g1 : ic_S} {i : Nat} {v : Int32} {s : Nat} (hs : s < 4) (h1 : g1 = ic_up g (3 + s) (0 + i) v) : ic_ap 0 73 g (17, s, 0) (fun j => g.1 (3 + s) (0 + j)) i v g1 := by
  subst h1
  have ho : ic_own (3 + s) (0 + i) = (17, s, 0) := by
    rcases (show s = 0 ∨ s = 1 ∨ s = 2 ∨ s = 3 by omega) with rfl | rfl | rfl | rfl <;> rfl
  refine ⟨ic_memk 17 (by decide) s hs 0 (by decide), fun κ => ⟨rfl, ?_⟩, fun κ y hy hne => ic_oth κ g _ _ v y hy (fun q => hne (q.symm.trans ho)), fun k => ?_, ?_⟩
  · show Sum.inl (_, _, Sum.inl (fun j => (ic_up g (3 + s) (0 + i) v).1 (3 + s) (0 + j))) = _
    have e : (fun j => (ic_up g (3 + s) (0 + i) v).1 (3 + s) (0 + j)) = upd (fun j => g.1 (3 + s) (0 + j)) i v := by
      funext j
      show _ = (if j = i then v else _)
      by_cases hj : j = i
      · rw [if_pos hj, hj]; exact ic_upS
      · rw [if_neg hj]; exact ic_upN (fun q => hj (by omega))
    rw [e]
  · exact ic_upN (by omega)
  · exact ic_upN (by omega)
theorem a18 {g : ic_S} : ic_ai 0 7 g (18, 0, 0) (fun j => g.1 25 (0 + j)) := ⟨ic_memk 18 (by decide) 0 (by decide) 0 (by decide), by decide, fun κ => rfl⟩
theorem w18 {g g1 : ic_S} {i : Nat} {v : Int32} (h1 : g1 = ic_up g 25 (0 + i) v) : ic_ap 0 7 g (18, 0, 0) (fun j => g.1 25 (0 + j)) i v g1 := by
  subst h1
  have ho : ic_own 25 (0 + i) = (18, 0, 0) := by
    rfl
  refine ⟨ic_memk 18 (by decide) 0 (by decide) 0 (by decide), fun κ => ⟨rfl, ?_⟩, fun κ y hy hne => ic_oth κ g _ _ v y hy (fun q => hne (q.symm.trans ho)), fun k => ?_, ?_⟩
  · show Sum.inl (_, _, Sum.inl (fun j => (ic_up g 25 (0 + i) v).1 25 (0 + j))) = _
    have e : (fun j => (ic_up g 25 (0 + i) v).1 25 (0 + j)) = upd (fun j => g.1 25 (0 + j)) i v := by
      funext j
      show _ = (if j = i then v else _)
      by_cases hj : j = i
      · rw [if_pos hj, hj]; exact ic_upS
      · rw [if_neg hj]; exact ic_upN (fun q => hj (by omega))
    rw [e]
  · exact ic_upN (by omega)
  · exact ic_upN (by omega)
theorem a19 {g : ic_S} : ic_ai 1 120 g (19, 0, 0) (fun j => g.1 26 (0 + j)) := ⟨ic_memk 19 (by decide) 0 (by decide) 0 (by decide), by decide, fun κ => rfl⟩
theorem w19 {g g1 : ic_S} {i : Nat} {v : Int32} (h1 : g1 = ic_up g 26 (0 + i) v) : ic_ap 1 120 g (19, 0, 0) (fun j => g.1 26 (0 + j)) i v g1 := by
  subst h1
  have ho : ic_own 26 (0 + i) = (19, 0, 0) := by
    rfl
  refine ⟨ic_memk 19 (by decide) 0 (by decide) 0 (by decide), fun κ => ⟨rfl, ?_⟩, fun κ y hy hne => ic_oth κ g _ _ v y hy (fun q => hne (q.symm.trans ho)), fun k => ?_, ?_⟩
  · show Sum.inl (_, _, Sum.inl (fun j => (ic_up g 26 (0 + i) v).1 26 (0 + j))) = _
    have e : (fun j => (ic_up g 26 (0 + i) v).1 26 (0 + j)) = upd (fun j => g.1 26 (0 + j)) i v := by
      funext j
      show _ = (if j = i then v else _)
      by_cases hj : j = i
      · rw [if_pos hj, hj]; exact ic_upS
      · rw [if_neg hj]; exact ic_upN (fun q => hj (by omega))
    rw [e]
  · exact ic_upN (by omega)
  · exact ic_upN (by omega)
theorem a20 {g : ic_S} : ic_ai 0 4 g (20, 0, 0) (fun j => g.1 27 (0 + j)) := ⟨ic_memk 20 (by decide) 0 (by decide) 0 (by decide), by decide, fun κ => rfl⟩
theorem w20 {g g1 : ic_S} {i : Nat} {v : Int32} (h1 : g1 = ic_up g 27 (0 + i) v) : ic_ap 0 4 g (20, 0, 0) (fun j => g.1 27 (0 + j)) i v g1 := by
  subst h1
  have ho : ic_own 27 (0 + i) = (20, 0, 0) := by
    rfl
  refine ⟨ic_memk 20 (by decide) 0 (by decide) 0 (by decide), fun κ => ⟨rfl, ?_⟩, fun κ y hy hne => ic_oth κ g _ _ v y hy (fun q => hne (q.symm.trans ho)), fun k => ?_, ?_⟩
  · show Sum.inl (_, _, Sum.inl (fun j => (ic_up g 27 (0 + i) v).1 27 (0 + j))) = _
    have e : (fun j => (ic_up g 27 (0 + i) v).1 27 (0 + j)) = upd (fun j => g.1 27 (0 + j)) i v := by
      funext j
      show _ = (if j = i then v else _)
      by_cases hj : j = i
      · rw [if_pos hj, hj]; exact ic_upS
      · rw [if_neg hj]; exact ic_upN (fun q => hj (by omega))
    rw [e]
  · exact ic_upN (by omega)
  · exact ic_upN (by omega)
theorem a21 {g : ic_S} : ic_ai 0 4 g (21, 0, 0) (fun j => g.1 28 (0 + j)) := ⟨ic_memk 21 (by decide) 0 (by decide) 0 (by decide), by decide, fun κ => rfl⟩
theorem w21 {g g1 : ic_S} {i : Nat} {v : Int32} (h1 : g1 = ic_up g 28 (0 + i) v) : ic_ap 0 4 g (21, 0, 0) (fun j => g.1 28 (0 + j)) i v g1 := by
  subst h1
  have ho : ic_own 28 (0 + i) = (21, 0, 0) := by
    rfl
  refine ⟨ic_memk 21 (by decide) 0 (by decide) 0 (by decide), fun κ => ⟨rfl, ?_⟩, fun κ y hy hne => ic_oth κ g _ _ v y hy (fun q => hne (q.symm.trans ho)), fun k => ?_, ?_⟩
  · show Sum.inl (_, _, Sum.inl (fun j => (ic_up g 28 (0 + i) v).1 28 (0 + j))) = _
    have e : (fun j => (ic_up g 28 (0 + i) v).1 28 (0 + j)) = upd (fun j => g.1 28 (0 + j)) i v := by
      funext j
      show _ = (if j = i then v else _)
      by_cases hj : j = i
      · rw [if_pos hj, hj]; exact ic_upS
      · rw [if_neg hj]; exact ic_upN (fun q => hj (by omega))
    rw [e]
  · exact ic_upN (by omega)
  · exact ic_upN (by omega)
theorem a22 {g : ic_S} : ic_ai 0 160 g (22, 0, 0) (fun j => g.1 29 (0 + j)) := ⟨ic_memk 22 (by decide) 0 (by decide) 0 (by decide), by decide, fun κ => rfl⟩
theorem w22 {g g1 : ic_S} {i : Nat} {v : Int32} (h1 : g1 = ic_up g 29 (0 + i) v) : ic_ap 0 160 g (22, 0, 0) (fun j => g.1 29 (0 + j)) i v g1 := by
  subst h1
  have ho : ic_own 29 (0 + i) = (22, 0, 0) := by
    rfl
  refine ⟨ic_memk 22 (by decide) 0 (by decide) 0 (by decide), fun κ => ⟨rfl, ?_⟩, fun κ y hy hne => ic_oth κ g _ _ v y hy (fun q => hne (q.symm.trans ho)), fun k => ?_, ?_⟩
  · show Sum.inl (_, _, Sum.inl (fun j => (ic_up g 29 (0 + i) v).1 29 (0 + j))) = _
    have e : (fun j => (ic_up g 29 (0 + i) v).1 29 (0 + j)) = upd (fun j => g.1 29 (0 + j)) i v := by
      funext j
      show _ = (if j = i then v else _)
      by_cases hj : j = i
      · rw [if_pos hj, hj]; exact ic_upS
      · rw [if_neg hj]; exact ic_upN (fun q => hj (by omega))
    rw [e]
  · exact ic_upN (by omega)
  · exact ic_upN (by omega)
theorem a23 {g : ic_S} : ic_ai 0 40 g (23, 0, 0) (fun j => g.1 30 (0 + j)) := ⟨ic_memk 23 (by decide) 0 (by decide) 0 (by decide), by decide, fun κ => rfl⟩
theorem w23 {g g1 : ic_S} {i : Nat} {v : Int32} (h1 : g1 = ic_up g 30 (0 + i) v) : ic_ap 0 40 g (23, 0, 0) (fun j => g.1 30 (0 + j)) i v g1 := by
  subst h1
  have ho : ic_own 30 (0 + i) = (23, 0, 0) := by
    rfl
  refine ⟨ic_memk 23 (by decide) 0 (by decide) 0 (by decide), fun κ => ⟨rfl, ?_⟩, fun κ y hy hne => ic_oth κ g _ _ v y hy (fun q => hne (q.symm.trans ho)), fun k => ?_, ?_⟩
  · show Sum.inl (_, _, Sum.inl (fun j => (ic_up g 30 (0 + i) v).1 30 (0 + j))) = _
    have e : (fun j => (ic_up g 30 (0 + i) v).1 30 (0 + j)) = upd (fun j => g.1 30 (0 + j)) i v := by
      funext j
      show _ = (if j = i then v else _)
      by_cases hj : j = i
      · rw [if_pos hj, hj]; exact ic_upS
      · rw [if_neg hj]; exact ic_upN (fun q => hj (by omega))
    rw [e]
  · exact ic_upN (by omega)
  · exact ic_upN (by omega)
theorem a2 {g : ic_S} {s : Nat} (hs : s < 3) : ic_ar 2 8 g (2, s, 0) (fun j => (3, s, j)) := ⟨ic_memk 2 (by decide) s hs 0 (by decide), by decide, fun κ => rfl⟩
theorem a12 {g : ic_S} : ic_ar 3 4 g (12, 0, 0) (fun j => (13, j, 0)) := ⟨ic_memk 12 (by decide) 0 (by decide) 0 (by decide), by decide, fun κ => rfl⟩
theorem rc0 : ic_rc "IronCall" (0, 0, 0) := Or.inl ⟨6, TX6, 9, rfl, ic_memk 0 (by decide) 0 (by decide) 0 (by decide), fun κ g => ⟨_, rfl⟩⟩
theorem rc1 {s : Nat} (hs : s < 3) : ic_rc "IronCall$Street" (1, s, 0) := Or.inl ⟨2, TX2, 9, rfl, ic_memk 1 (by decide) s hs 0 (by decide), fun κ g => ⟨_, rfl⟩⟩
theorem rc3 {s : Nat} (hs : s < 3) {t : Nat} (ht : t < 8) : ic_rc "IronCall$Thing" (3, s, t) := Or.inl ⟨4, TX4, 8, rfl, ic_memk 3 (by decide) s hs t ht, fun κ g => ⟨_, rfl⟩⟩
theorem rc5 : ic_rc "IronCall$Tape" (5, 0, 0) := Or.inl ⟨3, TX3, 2, rfl, ic_memk 5 (by decide) 0 (by decide) 0 (by decide), fun κ g => ⟨_, rfl⟩⟩
theorem rc7 : ic_rc "IronCall$Tokens" (7, 0, 0) := Or.inl ⟨5, TX5, 5, rfl, ic_memk 7 (by decide) 0 (by decide) 0 (by decide), fun κ g => ⟨_, rfl⟩⟩
theorem rc11 : ic_rc "IronCall$Reader" (11, 0, 0) := Or.inl ⟨0, TX0, 4, rfl, ic_memk 11 (by decide) 0 (by decide) 0 (by decide), fun κ g => ⟨_, rfl⟩⟩
theorem rc13 {s : Nat} (hs : s < 4) : ic_rc "IronCall$Sheet" (13, s, 0) := Or.inl ⟨1, TX1, 3, rfl, ic_memk 13 (by decide) s hs 0 (by decide), fun κ g => ⟨_, rfl⟩⟩
theorem rc16 : ic_rc "IronCallModel" (16, 0, 0) := Or.inl ⟨7, TX7, 17, rfl, ic_memk 16 (by decide) 0 (by decide) 0 (by decide), fun κ g => ⟨_, rfl⟩⟩
theorem rc24 {i : Nat} (hi : i < 16) : ic_rc "java/lang/String" (24, i, 0) := Or.inr ⟨rfl, i, hi, rfl⟩
end
section
theorem ic_othg (κ : ic_X) (g g' : ic_S) (x : ic_K) (hg : ∀ b i, ic_own b i ≠ x → g'.1 b i = g.1 b i) (h2 : g'.2 = g.2) : ∀ y ∈ ic_keys, y ≠ x → ic_cel κ g' y = ic_cel κ g y := by
  intro y hy hne
  have hb := ic_bnd y hy
  have hz : ∀ b i, ic_own b i = y → g'.1 b i = g.1 b i := fun b i e => hg b i (by rw [e]; exact hne)
  obtain ⟨C, s, t⟩ := y
  match C, hb, hz with
  | 0, hb, hz =>
    have h1 : s < 1 := hb.2.1
    have h2 : t < 1 := hb.2.2
    have e2 : t = 0 := by omega
    subst e2
    have e1 : s = 0 := by omega
    subst e1
    have h_hasKept : g'.1 7 0 = g.1 7 0 := by
      refine hz _ _ ?_
      rfl
    simp only [ic_cel, h_hasKept]
  | 1, hb, hz =>
    have h1 : s < 3 := hb.2.1
    have h2 : t < 1 := hb.2.2
    have e2 : t = 0 := by omega
    subst e2
    have h_cell : g'.1 s 3 = g.1 s 3 := by
      refine hz _ _ ?_
      rcases (show s = 0 ∨ s = 1 ∨ s = 2 by omega) with rfl | rfl | rfl <;> rfl
    have h_way : g'.1 s 4 = g.1 s 4 := by
      refine hz _ _ ?_
      rcases (show s = 0 ∨ s = 1 ∨ s = 2 by omega) with rfl | rfl | rfl <;> rfl
    have h_pace : g'.1 s 5 = g.1 s 5 := by
      refine hz _ _ ?_
      rcases (show s = 0 ∨ s = 1 ∨ s = 2 by omega) with rfl | rfl | rfl <;> rfl
    have h_loud : g'.1 s 6 = g.1 s 6 := by
      refine hz _ _ ?_
      rcases (show s = 0 ∨ s = 1 ∨ s = 2 by omega) with rfl | rfl | rfl <;> rfl
    have h_callNumber : g'.1 s 1 = g.1 s 1 := by
      refine hz _ _ ?_
      rcases (show s = 0 ∨ s = 1 ∨ s = 2 by omega) with rfl | rfl | rfl <;> rfl
    have h_z : g'.1 s 2 = g.1 s 2 := by
      refine hz _ _ ?_
      rcases (show s = 0 ∨ s = 1 ∨ s = 2 by omega) with rfl | rfl | rfl <;> rfl
    have h_made : g'.1 s 0 = g.1 s 0 := by
      refine hz _ _ ?_
      rcases (show s = 0 ∨ s = 1 ∨ s = 2 by omega) with rfl | rfl | rfl <;> rfl
    simp only [ic_cel, h_cell, h_way, h_pace, h_loud, h_callNumber, h_z, h_made]
  | 2, hb, hz =>
    rfl
  | 3, hb, hz =>
    have h1 : s < 3 := hb.2.1
    have h2 : t < 8 := hb.2.2
    have h_kind : g'.1 s (7 + t) = g.1 s (7 + t) := by
      refine hz _ _ ?_
      rcases (show s = 0 ∨ s = 1 ∨ s = 2 by omega) with rfl | rfl | rfl
      all_goals (show (if (7 + t) < 7 then _ else if (7 + t) < 63 then _ else _) = _; rw [if_neg (by omega), if_pos (by omega), show ((7 + t) - 7) % 8 = t by omega])
    have h_cell : g'.1 s (15 + t) = g.1 s (15 + t) := by
      refine hz _ _ ?_
      rcases (show s = 0 ∨ s = 1 ∨ s = 2 by omega) with rfl | rfl | rfl
      all_goals (show (if (15 + t) < 7 then _ else if (15 + t) < 63 then _ else _) = _; rw [if_neg (by omega), if_pos (by omega), show ((15 + t) - 7) % 8 = t by omega])
    have h_heavy : g'.1 s (23 + t) = g.1 s (23 + t) := by
      refine hz _ _ ?_
      rcases (show s = 0 ∨ s = 1 ∨ s = 2 by omega) with rfl | rfl | rfl
      all_goals (show (if (23 + t) < 7 then _ else if (23 + t) < 63 then _ else _) = _; rw [if_neg (by omega), if_pos (by omega), show ((23 + t) - 7) % 8 = t by omega])
    have h_pulled : g'.1 s (31 + t) = g.1 s (31 + t) := by
      refine hz _ _ ?_
      rcases (show s = 0 ∨ s = 1 ∨ s = 2 by omega) with rfl | rfl | rfl
      all_goals (show (if (31 + t) < 7 then _ else if (31 + t) < 63 then _ else _) = _; rw [if_neg (by omega), if_pos (by omega), show ((31 + t) - 7) % 8 = t by omega])
    have h_moved : g'.1 s (55 + t) = g.1 s (55 + t) := by
      refine hz _ _ ?_
      rcases (show s = 0 ∨ s = 1 ∨ s = 2 by omega) with rfl | rfl | rfl
      all_goals (show (if (55 + t) < 7 then _ else if (55 + t) < 63 then _ else _) = _; rw [if_neg (by omega), if_pos (by omega), show ((55 + t) - 7) % 8 = t by omega])
    have h_isHeld : g'.1 s (39 + t) = g.1 s (39 + t) := by
      refine hz _ _ ?_
      rcases (show s = 0 ∨ s = 1 ∨ s = 2 by omega) with rfl | rfl | rfl
      all_goals (show (if (39 + t) < 7 then _ else if (39 + t) < 63 then _ else _) = _; rw [if_neg (by omega), if_pos (by omega), show ((39 + t) - 7) % 8 = t by omega])
    have h_isTaken : g'.1 s (47 + t) = g.1 s (47 + t) := by
      refine hz _ _ ?_
      rcases (show s = 0 ∨ s = 1 ∨ s = 2 by omega) with rfl | rfl | rfl
      all_goals (show (if (47 + t) < 7 then _ else if (47 + t) < 63 then _ else _) = _; rw [if_neg (by omega), if_pos (by omega), show ((47 + t) - 7) % 8 = t by omega])
    simp only [ic_cel, h_kind, h_cell, h_heavy, h_pulled, h_moved, h_isHeld, h_isTaken]
  | 4, hb, hz =>
    have h1 : s < 3 := hb.2.1
    have h2 : t < 1 := hb.2.2
    have e2 : t = 0 := by omega
    subst e2
    have h : ∀ j, g'.1 s (63 + j) = g.1 s (63 + j) := by
      intro j
      refine hz _ _ ?_
      rcases (show s = 0 ∨ s = 1 ∨ s = 2 by omega) with rfl | rfl | rfl
      all_goals (show (if 63 + j < 7 then _ else if 63 + j < 63 then _ else _) = _; rw [if_neg (by omega), if_neg (by omega)])
    simp only [ic_cel, h]
  | 5, hb, hz =>
    have h1 : s < 1 := hb.2.1
    have h2 : t < 1 := hb.2.2
    have e2 : t = 0 := by omega
    subst e2
    have e1 : s = 0 := by omega
    subst e1
    have h_size : g'.1 8 0 = g.1 8 0 := by
      refine hz _ _ ?_
      rfl
    simp only [ic_cel, h_size]
  | 6, hb, hz =>
    have h1 : s < 1 := hb.2.1
    have h2 : t < 1 := hb.2.2
    have e2 : t = 0 := by omega
    subst e2
    have e1 : s = 0 := by omega
    subst e1
    have h : ∀ j, g'.1 9 (0 + j) = g.1 9 (0 + j) := by
      intro j
      refine hz _ _ ?_
      rfl
    simp only [ic_cel, h]
  | 7, hb, hz =>
    have h1 : s < 1 := hb.2.1
    have h2 : t < 1 := hb.2.2
    have e2 : t = 0 := by omega
    subst e2
    have e1 : s = 0 := by omega
    subst e1
    have h_size : g'.1 10 0 = g.1 10 0 := by
      refine hz _ _ ?_
      rfl
    simp only [ic_cel, h_size]
  | 8, hb, hz =>
    have h1 : s < 1 := hb.2.1
    have h2 : t < 1 := hb.2.2
    have e2 : t = 0 := by omega
    subst e2
    have e1 : s = 0 := by omega
    subst e1
    have h : ∀ j, g'.1 11 (0 + j) = g.1 11 (0 + j) := by
      intro j
      refine hz _ _ ?_
      rfl
    simp only [ic_cel, h]
  | 9, hb, hz =>
    have h1 : s < 1 := hb.2.1
    have h2 : t < 1 := hb.2.2
    have e2 : t = 0 := by omega
    subst e2
    have e1 : s = 0 := by omega
    subst e1
    have h : ∀ j, g'.1 12 (0 + j) = g.1 12 (0 + j) := by
      intro j
      refine hz _ _ ?_
      rfl
    simp only [ic_cel, h]
  | 10, hb, hz =>
    have h1 : s < 1 := hb.2.1
    have h2 : t < 1 := hb.2.2
    have e2 : t = 0 := by omega
    subst e2
    have e1 : s = 0 := by omega
    subst e1
    have h : ∀ j, g'.1 13 (0 + j) = g.1 13 (0 + j) := by
      intro j
      refine hz _ _ ?_
      rfl
    simp only [ic_cel, h]
  | 11, hb, hz =>
    have h1 : s < 1 := hb.2.1
    have h2 : t < 1 := hb.2.2
    have e2 : t = 0 := by omega
    subst e2
    have e1 : s = 0 := by omega
    subst e1
    have h_next : g'.1 14 0 = g.1 14 0 := by
      refine hz _ _ ?_
      rfl
    have h_isFaulty : g'.1 14 1 = g.1 14 1 := by
      refine hz _ _ ?_
      rfl
    simp only [ic_cel, h_next, h_isFaulty]
  | 12, hb, hz =>
    rfl
  | 13, hb, hz =>
    have h1 : s < 4 := hb.2.1
    have h2 : t < 1 := hb.2.2
    have e2 : t = 0 := by omega
    subst e2
    have h_bits : g'.1 (15 + s) 0 = g.1 (15 + s) 0 := by
      refine hz _ _ ?_
      rcases (show s = 0 ∨ s = 1 ∨ s = 2 ∨ s = 3 by omega) with rfl | rfl | rfl | rfl <;> rfl
    have h_size : g'.1 (15 + s) 1 = g.1 (15 + s) 1 := by
      refine hz _ _ ?_
      rcases (show s = 0 ∨ s = 1 ∨ s = 2 ∨ s = 3 by omega) with rfl | rfl | rfl | rfl <;> rfl
    simp only [ic_cel, h_bits, h_size]
  | 14, hb, hz =>
    have h1 : s < 4 := hb.2.1
    have h2 : t < 1 := hb.2.2
    have e2 : t = 0 := by omega
    subst e2
    have h : ∀ j, g'.1 (19 + s) (0 + j) = g.1 (19 + s) (0 + j) := by
      intro j
      refine hz _ _ ?_
      rcases (show s = 0 ∨ s = 1 ∨ s = 2 ∨ s = 3 by omega) with rfl | rfl | rfl | rfl <;> rfl
    simp only [ic_cel, h]
  | 15, hb, hz =>
    have h1 : s < 1 := hb.2.1
    have h2 : t < 1 := hb.2.2
    have e2 : t = 0 := by omega
    subst e2
    have e1 : s = 0 := by omega
    subst e1
    have h : ∀ j, g'.1 23 (0 + j) = g.1 23 (0 + j) := by
      intro j
      refine hz _ _ ?_
      rfl
    simp only [ic_cel, h]
  | 16, hb, hz =>
    have h1 : s < 1 := hb.2.1
    have h2 : t < 1 := hb.2.2
    have e2 : t = 0 := by omega
    subst e2
    have e1 : s = 0 := by omega
    subst e1
    have h_isKept : g'.1 24 0 = g.1 24 0 := by
      refine hz _ _ ?_
      rfl
    have h_taped : g'.1 24 1 = g.1 24 1 := by
      refine hz _ _ ?_
      rfl
    have h_at : g'.1 24 2 = g.1 24 2 := by
      refine hz _ _ ?_
      rfl
    have h_sort : g'.1 24 3 = g.1 24 3 := by
      refine hz _ _ ?_
      rfl
    have h_from : g'.1 24 4 = g.1 24 4 := by
      refine hz _ _ ?_
      rfl
    have h_fault : g'.1 24 5 = g.1 24 5 := by
      refine hz _ _ ?_
      rfl
    simp only [ic_cel, h_isKept, h_taped, h_at, h_sort, h_from, h_fault]
    rw [‹g'.2 = g.2›]
  | 17, hb, hz =>
    have h1 : s < 4 := hb.2.1
    have h2 : t < 1 := hb.2.2
    have e2 : t = 0 := by omega
    subst e2
    have h : ∀ j, g'.1 (3 + s) (0 + j) = g.1 (3 + s) (0 + j) := by
      intro j
      refine hz _ _ ?_
      rcases (show s = 0 ∨ s = 1 ∨ s = 2 ∨ s = 3 by omega) with rfl | rfl | rfl | rfl <;> rfl
    simp only [ic_cel, h]
  | 18, hb, hz =>
    have h1 : s < 1 := hb.2.1
    have h2 : t < 1 := hb.2.2
    have e2 : t = 0 := by omega
    subst e2
    have e1 : s = 0 := by omega
    subst e1
    have h : ∀ j, g'.1 25 (0 + j) = g.1 25 (0 + j) := by
      intro j
      refine hz _ _ ?_
      rfl
    simp only [ic_cel, h]
  | 19, hb, hz =>
    have h1 : s < 1 := hb.2.1
    have h2 : t < 1 := hb.2.2
    have e2 : t = 0 := by omega
    subst e2
    have e1 : s = 0 := by omega
    subst e1
    have h : ∀ j, g'.1 26 (0 + j) = g.1 26 (0 + j) := by
      intro j
      refine hz _ _ ?_
      rfl
    simp only [ic_cel, h]
  | 20, hb, hz =>
    have h1 : s < 1 := hb.2.1
    have h2 : t < 1 := hb.2.2
    have e2 : t = 0 := by omega
    subst e2
    have e1 : s = 0 := by omega
    subst e1
    have h : ∀ j, g'.1 27 (0 + j) = g.1 27 (0 + j) := by
      intro j
      refine hz _ _ ?_
      rfl
    simp only [ic_cel, h]
  | 21, hb, hz =>
    have h1 : s < 1 := hb.2.1
    have h2 : t < 1 := hb.2.2
    have e2 : t = 0 := by omega
    subst e2
    have e1 : s = 0 := by omega
    subst e1
    have h : ∀ j, g'.1 28 (0 + j) = g.1 28 (0 + j) := by
      intro j
      refine hz _ _ ?_
      rfl
    simp only [ic_cel, h]
  | 22, hb, hz =>
    have h1 : s < 1 := hb.2.1
    have h2 : t < 1 := hb.2.2
    have e2 : t = 0 := by omega
    subst e2
    have e1 : s = 0 := by omega
    subst e1
    have h : ∀ j, g'.1 29 (0 + j) = g.1 29 (0 + j) := by
      intro j
      refine hz _ _ ?_
      rfl
    simp only [ic_cel, h]
  | 23, hb, hz =>
    have h1 : s < 1 := hb.2.1
    have h2 : t < 1 := hb.2.2
    have e2 : t = 0 := by omega
    subst e2
    have e1 : s = 0 := by omega
    subst e1
    have h : ∀ j, g'.1 30 (0 + j) = g.1 30 (0 + j) := by
      intro j
      refine hz _ _ ?_
      rfl
    simp only [ic_cel, h]
  | n + 24, hb, hz => exact absurd hb.1 (by show ¬ (n + 24 < 24); omega)
def ic_cpk (sp dp n : Int32) : Bool := (decide (0 ≤ sp.toInt) && decide (0 ≤ dp.toInt)) && (decide (0 ≤ n.toInt) && (decide (sp.toInt + n.toInt ≤ 40) && decide (dp.toInt + n.toInt ≤ 40)))
def ic_cpS (g : ic_S) (s1 s2 sp dp n : Nat) : ic_S := (fun c i => if c = 19 + s2 then va_cpy (fun j => g.1 (19 + s1) (0 + j)) (fun j => g.1 (19 + s2) (0 + j)) sp dp n i else g.1 c i, g.2)
theorem ic_xin {P Q : Prop} [Decidable P] [Decidable Q] (h : (decide P && decide Q) = true) : P ∧ Q := by
  simpa using h
section IC8
variable {M : ic_M} {pc nx : Nat} {lv lv' : ic_L} {st stk : List ic_V} {g g1 g' : ic_S} {r : Option ic_V} {a b : Nat}
theorem ev_topI {x y : Int32} (e : y = x) (h : ic_Ev M pc lv (ic_I y :: st) g r g') : ic_Ev M pc lv (ic_I x :: st) g r g' := by rw [← e]; exact h
theorem ev_topJ {x y : Int64} (e : y = x) (h : ic_Ev M pc lv (ic_J y :: st) g r g') : ic_Ev M pc lv (ic_J x :: st) g r g' := by rw [← e]; exact h
theorem ev_ialdk {x : ic_K} {n : Nat} {f : Nat → Int32} {i : Int32} (k : Nat) (hk : i.toNatClampNeg = k) (hd : ic_at M a b = some (pc, .iaload, 1, nx)) (ha : ic_ai 0 n g x f) (hi : ic_in i n = true) (h : ic_Ev M nx lv (ic_I (f k) :: st) g r g') : ic_Ev M pc lv (ic_I i :: .inr (.inr (some x)) :: st) g r g' := by
  subst hk
  exact ev_iald hd ha hi h
theorem ev_baldk {x : ic_K} {n : Nat} {f : Nat → Int32} {i : Int32} (k : Nat) (hk : i.toNatClampNeg = k) (hd : ic_at M a b = some (pc, .baload, 1, nx)) (ha : ic_ai 1 n g x f) (hi : ic_in i n = true) (h : ic_Ev M nx lv (ic_I (f k) :: st) g r g') : ic_Ev M pc lv (ic_I i :: .inr (.inr (some x)) :: st) g r g' := by
  subst hk
  exact ev_bald hd ha hi h
theorem ev_iastk {x : ic_K} {n : Nat} {f : Nat → Int32} {i v : Int32} (k : Nat) (hk : i.toNatClampNeg = k) (hd : ic_at M a b = some (pc, .iastore, 1, nx)) (hi : ic_in i n = true) (ha : ic_ap 0 n g x f k v g1) (h : ic_Ev M nx lv st g1 r g') : ic_Ev M pc lv (ic_I v :: ic_I i :: .inr (.inr (some x)) :: st) g r g' := by
  subst hk
  exact ev_iast hd hi ha h
theorem ev_bastk {x : ic_K} {n : Nat} {f : Nat → Int32} {i v : Int32} (k : Nat) (hk : i.toNatClampNeg = k) (hd : ic_at M a b = some (pc, .bastore, 1, nx)) (hi : ic_in i n = true) (ha : ic_ap 1 n g x f k v.toInt8.toInt32 g1) (h : ic_Ev M nx lv st g1 r g') : ic_Ev M pc lv (ic_I v :: ic_I i :: .inr (.inr (some x)) :: st) g r g' := by
  subst hk
  exact ev_bast hd hi ha h
theorem ev_ldc_w {i : Nat} (v : Int32) (hd : ic_at M a b = some (pc, .ldc_w i, 3, nx)) (hc0 : Cond.constant M.1.cls i v ∈ lw_gd) (h : ic_Ev M nx lv (ic_I v :: st) g r g') : ic_Ev M pc lv st g r g' := by
  intro κ A p l e R s m args below meth c cells slots Q B hc K H locs ls hW hl
  obtain ⟨hx, hb, hml, hown, hts, hfr, hlo, hF, hA, hok⟩ := id B
  obtain ⟨hd1, hd2⟩ := ic_okd_at hok hd
  dsimp only at hd1 hd2
  subst hd2
  exact lv_ldcw hx hb hown (hts _ hc0) hd1 (h κ A p l e R s m args below meth c cells slots Q B hc K H locs ls hW hl)
theorem ev_cpn {idx s1 s2 : Nat} {sp dp n : Int32} (hd : ic_at M a b = some (pc, .invokestatic idx, 3, nx)) (hl0 : Cond.methodLink M.1.cls idx arraycopyName ∈ lw_gd) (h1 : s1 < 4) (h2 : s2 < 4) (hk : ic_cpk sp dp n = true) (hg : g1 = ic_cpS g s1 s2 sp.toNatClampNeg dp.toNatClampNeg n.toNatClampNeg) (hroom : (Nat.ble 1 M.2.2.2.2.1 && Nat.ble 26 M.2.2.2.2.2.1) = true) (h : ic_Ev M nx lv [] g1 r g') : ic_Ev M pc lv [ic_I n, ic_I dp, ic_R 14 s2 0, ic_I sp, ic_R 14 s1 0] g r g' := by
  subst hg
  unfold ic_cpk at hk
  simp only [Bool.and_eq_true, decide_eq_true_eq] at hk
  obtain ⟨⟨k1, k2⟩, k3, k4, k5⟩ := hk
  rw [Bool.and_eq_true] at hroom
  have r1 := Nat.le_of_ble_eq_true hroom.1
  have r2 := Nat.le_of_ble_eq_true hroom.2
  have nn : ∀ z : Int32, 0 ≤ z.toInt → ¬ z < 0 := fun z hz q => by
    have := Int32.lt_iff_toInt_lt.mp q
    rw [Int32.toInt_zero] at this
    omega
  have tc : ∀ z : Int32, 0 ≤ z.toInt → (z.toNatClampNeg : Int) = z.toInt := fun z hz => by
    show ((z.toInt.toNat : Nat) : Int) = z.toInt
    omega
  have ho : ic_own (19 + s2) 0 = (14, s2, 0) := by rcases (show s2 = 0 ∨ s2 = 1 ∨ s2 = 2 ∨ s2 = 3 by omega) with rfl | rfl | rfl | rfl <;> rfl
  have hob : ∀ i, ic_own (19 + s2) i = (14, s2, 0) := by intro i; rcases (show s2 = 0 ∨ s2 = 1 ∨ s2 = 2 ∨ s2 = 3 by omega) with rfl | rfl | rfl | rfl <;> rfl
  refine ev_copy hd hl0 ok_arraycopy ⟨r1, r2⟩ (Nat.zero_le _) (a14 h1) (a14 h2) (nn _ k1) (nn _ k2) (nn _ k3) (by have := tc _ k1; have := tc _ k3; omega) (by have := tc _ k2; have := tc _ k3; omega) (fun κ => ⟨?_, ?_⟩) ⟨fun i => ?_, ?_⟩ h
  · show Sum.inl (κ.2.2.1 0, 40, Sum.inl (fun j => (ic_cpS g s1 s2 sp.toNatClampNeg dp.toNatClampNeg n.toNatClampNeg).1 (19 + s2) (0 + j))) = _
    have e : (fun j => (ic_cpS g s1 s2 sp.toNatClampNeg dp.toNatClampNeg n.toNatClampNeg).1 (19 + s2) (0 + j)) = va_cpy (fun j => g.1 (19 + s1) (0 + j)) (fun j => g.1 (19 + s2) (0 + j)) sp.toNatClampNeg dp.toNatClampNeg n.toNatClampNeg := by
      funext j
      show (if _ then _ else _) = _
      rw [if_pos rfl, Nat.zero_add]
    rw [e]
  · refine ic_othg κ g _ (14, s2, 0) (fun b i hb => ?_) rfl
    show (if _ then _ else _) = _
    rw [if_neg]
    intro e
    exact hb (by rw [e]; exact hob i)
  · show (if _ then _ else _) = _
    rw [if_neg (by omega)]
  · show (if _ then _ else _) = _
    rw [if_neg (by omega)]
end IC8
end
