def lL_law_18  : Nat → Int32 → ic_S → Option ((Int32 × ic_S) ⊕ (Unit × ic_S))
  | 0, _, _ => none
  | n + 1, x3, g => (if ((g.1 41 0) - 6) < x3 then some (.inr ((), g)) else ic_gd (decide (0 ≤ Int32.toInt x3) && decide (Int32.toInt x3 < Int32.toInt (g.1 41 0))) ((if ((g.1 40 (Int32.toNatClampNeg x3)) &&& 63) = 0 then ic_gd (decide (0 ≤ Int32.toInt (x3 + 1)) && decide (Int32.toInt (x3 + 1) < Int32.toInt (g.1 41 0))) (ic_gd (decide (0 ≤ Int32.toInt (x3 + 2)) && decide (Int32.toInt (x3 + 2) < Int32.toInt (g.1 41 0))) (ic_b2 (fX6_set (g.1 40 (Int32.toNatClampNeg (x3 + 1))) (g.1 40 (Int32.toNatClampNeg (x3 + 2))) g) (fun v1047 g1045 => ic_gd (decide (0 ≤ Int32.toInt (x3 + 1)) && decide (Int32.toInt (x3 + 1) < Int32.toInt (g1045.1 41 0))) (ic_gd (decide (0 ≤ Int32.toInt (x3 + 2)) && decide (Int32.toInt (x3 + 2) < Int32.toInt (g1045.1 41 0))) (ic_b2 (fX7_set (g1045.1 40 (Int32.toNatClampNeg (x3 + 1))) (g1045.1 40 (Int32.toNatClampNeg (x3 + 2))) g1045) (fun v1052 g1050 => (if v1047 = v1052 then lL_law_18 n (x3 + 6) g1050 else some (.inl (0, g1050))))))))) else (if ((g.1 40 (Int32.toNatClampNeg x3)) &&& 63) = 1 then ic_gd (decide (0 ≤ Int32.toInt (x3 + 1)) && decide (Int32.toInt (x3 + 1) < Int32.toInt (g.1 41 0))) (ic_b2 (fX6_cart (g.1 40 (Int32.toNatClampNeg (x3 + 1))) g) (fun v1057 g1055 => ic_gd (decide (0 ≤ Int32.toInt (x3 + 1)) && decide (Int32.toInt (x3 + 1) < Int32.toInt (g1055.1 41 0))) (ic_b2 (fX7_cart (g1055.1 40 (Int32.toNatClampNeg (x3 + 1))) g1055) (fun v1061 g1059 => (if v1057 = v1061 then lL_law_18 n (x3 + 6) g1059 else some (.inl (0, g1059))))))) else (if ((g.1 40 (Int32.toNatClampNeg x3)) &&& 63) = 2 then ic_gd (decide (0 ≤ Int32.toInt (x3 + 1)) && decide (Int32.toInt (x3 + 1) < Int32.toInt (g.1 41 0))) (ic_gd (decide (0 ≤ Int32.toInt (x3 + 2)) && decide (Int32.toInt (x3 + 2) < Int32.toInt (g.1 41 0))) (ic_b2 (fX6_thing (g.1 40 (Int32.toNatClampNeg (x3 + 1))) (g.1 40 (Int32.toNatClampNeg (x3 + 2))) g) (fun v1067 g1065 => ic_gd (decide (0 ≤ Int32.toInt (x3 + 1)) && decide (Int32.toInt (x3 + 1) < Int32.toInt (g1065.1 41 0))) (ic_gd (decide (0 ≤ Int32.toInt (x3 + 2)) && decide (Int32.toInt (x3 + 2) < Int32.toInt (g1065.1 41 0))) (ic_b2 (fX7_thing (g1065.1 40 (Int32.toNatClampNeg (x3 + 1))) (g1065.1 40 (Int32.toNatClampNeg (x3 + 2))) g1065) (fun v1072 g1070 => (if v1067 = v1072 then lL_law_18 n (x3 + 6) g1070 else some (.inl (0, g1070))))))))) else (if ((g.1 40 (Int32.toNatClampNeg x3)) &&& 63) = 3 then ic_gd (decide (0 ≤ Int32.toInt (x3 + 1)) && decide (Int32.toInt (x3 + 1) < Int32.toInt (g.1 41 0))) (ic_gd (decide (0 ≤ Int32.toInt (x3 + 2)) && decide (Int32.toInt (x3 + 2) < Int32.toInt (g.1 41 0))) (ic_b2 (fX6_of (g.1 40 (Int32.toNatClampNeg (x3 + 1))) (g.1 40 (Int32.toNatClampNeg (x3 + 2))) g) (fun v1078 g1076 => ic_gd (decide (0 ≤ Int32.toInt (x3 + 1)) && decide (Int32.toInt (x3 + 1) < Int32.toInt (g1076.1 41 0))) (ic_gd (decide (0 ≤ Int32.toInt (x3 + 2)) && decide (Int32.toInt (x3 + 2) < Int32.toInt (g1076.1 41 0))) (ic_b2 (fX7_of (g1076.1 40 (Int32.toNatClampNeg (x3 + 1))) (g1076.1 40 (Int32.toNatClampNeg (x3 + 2))) g1076) (fun v1083 g1081 => (if v1078 = v1083 then lL_law_18 n (x3 + 6) g1081 else some (.inl (0, g1081))))))))) else (if ((g.1 40 (Int32.toNatClampNeg x3)) &&& 63) = 4 then ic_gd (decide (0 ≤ Int32.toInt (x3 + 1)) && decide (Int32.toInt (x3 + 1) < Int32.toInt (g.1 41 0))) (ic_gd (decide (0 ≤ Int32.toInt (x3 + 2)) && decide (Int32.toInt (x3 + 2) < Int32.toInt (g.1 41 0))) (ic_gd (decide (0 ≤ Int32.toInt (x3 + 3)) && decide (Int32.toInt (x3 + 3) < Int32.toInt (g.1 41 0))) (ic_b2 (fX6_change (g.1 40 (Int32.toNatClampNeg (x3 + 1))) (g.1 40 (Int32.toNatClampNeg (x3 + 2))) (g.1 40 (Int32.toNatClampNeg (x3 + 3))) g) (fun v1090 g1088 => ic_gd (decide (0 ≤ Int32.toInt (x3 + 1)) && decide (Int32.toInt (x3 + 1) < Int32.toInt (g1088.1 41 0))) (ic_gd (decide (0 ≤ Int32.toInt (x3 + 2)) && decide (Int32.toInt (x3 + 2) < Int32.toInt (g1088.1 41 0))) (ic_gd (decide (0 ≤ Int32.toInt (x3 + 3)) && decide (Int32.toInt (x3 + 3) < Int32.toInt (g1088.1 41 0))) (ic_b2 (fX7_change (g1088.1 40 (Int32.toNatClampNeg (x3 + 1))) (g1088.1 40 (Int32.toNatClampNeg (x3 + 2))) (g1088.1 40 (Int32.toNatClampNeg (x3 + 3))) g1088) (fun v1096 g1094 => (if v1090 = v1096 then lL_law_18 n (x3 + 6) g1094 else some (.inl (0, g1094))))))))))) else (if ((g.1 40 (Int32.toNatClampNeg x3)) &&& 63) = 5 then ic_gd (decide (0 ≤ Int32.toInt (x3 + 1)) && decide (Int32.toInt (x3 + 1) < Int32.toInt (g.1 41 0))) (ic_b2 (fX6_who (g.1 40 (Int32.toNatClampNeg (x3 + 1))) g) (fun v1101 g1099 => ic_gd (decide (0 ≤ Int32.toInt (x3 + 1)) && decide (Int32.toInt (x3 + 1) < Int32.toInt (g1099.1 41 0))) (ic_b2 (fX7_who (g1099.1 40 (Int32.toNatClampNeg (x3 + 1))) g1099) (fun v1105 g1103 => (if v1101 = v1105 then lL_law_18 n (x3 + 6) g1103 else some (.inl (0, g1103))))))) else (if ((g.1 40 (Int32.toNatClampNeg x3)) &&& 63) = 6 then ic_gd (decide (0 ≤ Int32.toInt (x3 + 1)) && decide (Int32.toInt (x3 + 1) < Int32.toInt (g.1 41 0))) (ic_b2 (fX6_go (g.1 40 (Int32.toNatClampNeg (x3 + 1))) g) (fun v1110 g1108 => ic_gd (decide (0 ≤ Int32.toInt (x3 + 1)) && decide (Int32.toInt (x3 + 1) < Int32.toInt (g1108.1 41 0))) (ic_b2 (fX7_go (g1108.1 40 (Int32.toNatClampNeg (x3 + 1))) g1108) (fun v1114 g1112 => (if v1110 = v1114 then lL_law_18 n (x3 + 6) g1112 else some (.inl (0, g1112))))))) else (if ((g.1 40 (Int32.toNatClampNeg x3)) &&& 63) = 7 then ic_gd (decide (0 ≤ Int32.toInt (x3 + 1)) && decide (Int32.toInt (x3 + 1) < Int32.toInt (g.1 41 0))) (ic_b2 (fX6_now (g.1 40 (Int32.toNatClampNeg (x3 + 1))) g) (fun v1119 g1117 => ic_gd (decide (0 ≤ Int32.toInt (x3 + 1)) && decide (Int32.toInt (x3 + 1) < Int32.toInt (g1117.1 41 0))) (ic_b2 (fX7_now (g1117.1 40 (Int32.toNatClampNeg (x3 + 1))) g1117) (fun v1123 g1121 => (if v1119 = v1123 then lL_law_18 n (x3 + 6) g1121 else some (.inl (0, g1121))))))) else (if ((g.1 40 (Int32.toNatClampNeg x3)) &&& 63) = 8 then ic_gd (decide (0 ≤ Int32.toInt (x3 + 1)) && decide (Int32.toInt (x3 + 1) < Int32.toInt (g.1 41 0))) (ic_gd (decide (0 ≤ Int32.toInt (x3 + 2)) && decide (Int32.toInt (x3 + 2) < Int32.toInt (g.1 41 0))) (ic_gd (decide (0 ≤ Int32.toInt (x3 + 3)) && decide (Int32.toInt (x3 + 3) < Int32.toInt (g.1 41 0))) (ic_b2 (fX6_ahead (g.1 40 (Int32.toNatClampNeg (x3 + 1))) (g.1 40 (Int32.toNatClampNeg (x3 + 2))) (g.1 40 (Int32.toNatClampNeg (x3 + 3))) g) (fun v1130 g1128 => ic_gd (decide (0 ≤ Int32.toInt (x3 + 1)) && decide (Int32.toInt (x3 + 1) < Int32.toInt (g1128.1 41 0))) (ic_gd (decide (0 ≤ Int32.toInt (x3 + 2)) && decide (Int32.toInt (x3 + 2) < Int32.toInt (g1128.1 41 0))) (ic_gd (decide (0 ≤ Int32.toInt (x3 + 3)) && decide (Int32.toInt (x3 + 3) < Int32.toInt (g1128.1 41 0))) (ic_b2 (fX7_ahead (g1128.1 40 (Int32.toNatClampNeg (x3 + 1))) (g1128.1 40 (Int32.toNatClampNeg (x3 + 2))) (g1128.1 40 (Int32.toNatClampNeg (x3 + 3))) g1128) (fun v1136 g1134 => (if v1130 = v1136 then lL_law_18 n (x3 + 6) g1134 else some (.inl (0, g1134))))))))))) else (if ((g.1 40 (Int32.toNatClampNeg x3)) &&& 63) = 9 then ic_gd (decide (0 ≤ Int32.toInt (x3 + 1)) && decide (Int32.toInt (x3 + 1) < Int32.toInt (g.1 41 0))) (ic_b2 (fX6_where (g.1 40 (Int32.toNatClampNeg (x3 + 1))) g) (fun v1141 g1139 => ic_gd (decide (0 ≤ Int32.toInt (x3 + 1)) && decide (Int32.toInt (x3 + 1) < Int32.toInt (g1139.1 41 0))) (ic_b2 (fX7_where (g1139.1 40 (Int32.toNatClampNeg (x3 + 1))) g1139) (fun v1145 g1143 => (if v1141 = v1145 then lL_law_18 n (x3 + 6) g1143 else some (.inl (0, g1143))))))) else (if ((g.1 40 (Int32.toNatClampNeg x3)) &&& 63) = 10 then ic_gd (decide (0 ≤ Int32.toInt (x3 + 1)) && decide (Int32.toInt (x3 + 1) < Int32.toInt (g.1 41 0))) (ic_b2 (fX6_taken (g.1 40 (Int32.toNatClampNeg (x3 + 1))) g) (fun v1150 g1148 => ic_gd (decide (0 ≤ Int32.toInt (x3 + 1)) && decide (Int32.toInt (x3 + 1) < Int32.toInt (g1148.1 41 0))) (ic_b2 (fX7_taken (g1148.1 40 (Int32.toNatClampNeg (x3 + 1))) g1148) (fun v1154 g1152 => (if v1150 = v1154 then lL_law_18 n (x3 + 6) g1152 else some (.inl (0, g1152))))))) else (if ((g.1 40 (Int32.toNatClampNeg x3)) &&& 63) = 11 then ic_gd (decide (0 ≤ Int32.toInt (x3 + 1)) && decide (Int32.toInt (x3 + 1) < Int32.toInt (g.1 41 0))) (ic_gd (decide (0 ≤ Int32.toInt (x3 + 2)) && decide (Int32.toInt (x3 + 2) < Int32.toInt (g.1 41 0))) (ic_b2 (fX6_when (g.1 40 (Int32.toNatClampNeg (x3 + 1))) (g.1 40 (Int32.toNatClampNeg (x3 + 2))) g) (fun v1160 g1158 => ic_gd (decide (0 ≤ Int32.toInt (x3 + 1)) && decide (Int32.toInt (x3 + 1) < Int32.toInt (g1158.1 41 0))) (ic_gd (decide (0 ≤ Int32.toInt (x3 + 2)) && decide (Int32.toInt (x3 + 2) < Int32.toInt (g1158.1 41 0))) (ic_b2 (fX7_when (g1158.1 40 (Int32.toNatClampNeg (x3 + 1))) (g1158.1 40 (Int32.toNatClampNeg (x3 + 2))) g1158) (fun v1165 g1163 => (if v1160 = v1165 then lL_law_18 n (x3 + 6) g1163 else some (.inl (0, g1163))))))))) else (if ((g.1 40 (Int32.toNatClampNeg x3)) &&& 63) = 12 then ic_gd (decide (0 ≤ Int32.toInt (x3 + 1)) && decide (Int32.toInt (x3 + 1) < Int32.toInt (g.1 41 0))) (ic_gd (decide (0 ≤ Int32.toInt (x3 + 2)) && decide (Int32.toInt (x3 + 2) < Int32.toInt (g.1 41 0))) (ic_b2 (fX6_meet (g.1 40 (Int32.toNatClampNeg (x3 + 1))) (g.1 40 (Int32.toNatClampNeg (x3 + 2))) g) (fun v1171 g1169 => ic_gd (decide (0 ≤ Int32.toInt (x3 + 1)) && decide (Int32.toInt (x3 + 1) < Int32.toInt (g1169.1 41 0))) (ic_gd (decide (0 ≤ Int32.toInt (x3 + 2)) && decide (Int32.toInt (x3 + 2) < Int32.toInt (g1169.1 41 0))) (ic_b2 (fX7_meet (g1169.1 40 (Int32.toNatClampNeg (x3 + 1))) (g1169.1 40 (Int32.toNatClampNeg (x3 + 2))) g1169) (fun v1176 g1174 => (if v1171 = v1176 then lL_law_18 n (x3 + 6) g1174 else some (.inl (0, g1174))))))))) else (if ((g.1 40 (Int32.toNatClampNeg x3)) &&& 63) = 13 then ic_gd (decide (0 ≤ Int32.toInt (x3 + 1)) && decide (Int32.toInt (x3 + 1) < Int32.toInt (g.1 41 0))) (ic_gd (decide (0 ≤ Int32.toInt (x3 + 2)) && decide (Int32.toInt (x3 + 2) < Int32.toInt (g.1 41 0))) (ic_b2 (fX6_strained (g.1 40 (Int32.toNatClampNeg (x3 + 1))) (g.1 40 (Int32.toNatClampNeg (x3 + 2))) g) (fun v1182 g1180 => ic_gd (decide (0 ≤ Int32.toInt (x3 + 1)) && decide (Int32.toInt (x3 + 1) < Int32.toInt (g1180.1 41 0))) (ic_gd (decide (0 ≤ Int32.toInt (x3 + 2)) && decide (Int32.toInt (x3 + 2) < Int32.toInt (g1180.1 41 0))) (ic_b2 (fX7_strained (g1180.1 40 (Int32.toNatClampNeg (x3 + 1))) (g1180.1 40 (Int32.toNatClampNeg (x3 + 2))) g1180) (fun v1187 g1185 => (if v1182 = v1187 then lL_law_18 n (x3 + 6) g1185 else some (.inl (0, g1185))))))))) else (if ((g.1 40 (Int32.toNatClampNeg x3)) &&& 63) = 14 then ic_gd (decide (0 ≤ Int32.toInt (x3 + 1)) && decide (Int32.toInt (x3 + 1) < Int32.toInt (g.1 41 0))) (ic_gd (decide (0 ≤ Int32.toInt (x3 + 2)) && decide (Int32.toInt (x3 + 2) < Int32.toInt (g.1 41 0))) (ic_b2 (fX6_loudFor (g.1 40 (Int32.toNatClampNeg (x3 + 1))) (g.1 40 (Int32.toNatClampNeg (x3 + 2))) g) (fun v1193 g1191 => ic_gd (decide (0 ≤ Int32.toInt (x3 + 1)) && decide (Int32.toInt (x3 + 1) < Int32.toInt (g1191.1 41 0))) (ic_gd (decide (0 ≤ Int32.toInt (x3 + 2)) && decide (Int32.toInt (x3 + 2) < Int32.toInt (g1191.1 41 0))) (ic_b2 (fX7_loudFor (g1191.1 40 (Int32.toNatClampNeg (x3 + 1))) (g1191.1 40 (Int32.toNatClampNeg (x3 + 2))) g1191) (fun v1198 g1196 => (if v1193 = v1198 then lL_law_18 n (x3 + 6) g1196 else some (.inl (0, g1196))))))))) else (if ((g.1 40 (Int32.toNatClampNeg x3)) &&& 63) = 15 then ic_gd (decide (0 ≤ Int32.toInt (x3 + 1)) && decide (Int32.toInt (x3 + 1) < Int32.toInt (g.1 41 0))) (ic_b2 (fX6_startFor (g.1 40 (Int32.toNatClampNeg (x3 + 1))) g) (fun v1203 g1201 => ic_gd (decide (0 ≤ Int32.toInt (x3 + 1)) && decide (Int32.toInt (x3 + 1) < Int32.toInt (g1201.1 41 0))) (ic_b2 (fX7_startFor (g1201.1 40 (Int32.toNatClampNeg (x3 + 1))) g1201) (fun v1207 g1205 => (if v1203 = v1207 then lL_law_18 n (x3 + 6) g1205 else some (.inl (0, g1205))))))) else (if ((g.1 40 (Int32.toNatClampNeg x3)) &&& 63) = 16 then ic_gd (decide (0 ≤ Int32.toInt (x3 + 1)) && decide (Int32.toInt (x3 + 1) < Int32.toInt (g.1 41 0))) (ic_gd (decide (0 ≤ Int32.toInt (x3 + 2)) && decide (Int32.toInt (x3 + 2) < Int32.toInt (g.1 41 0))) (ic_b2 (fX6_layFor (g.1 40 (Int32.toNatClampNeg (x3 + 1))) (g.1 40 (Int32.toNatClampNeg (x3 + 2))) g) (fun v1213 g1211 => ic_gd (decide (0 ≤ Int32.toInt (x3 + 1)) && decide (Int32.toInt (x3 + 1) < Int32.toInt (g1211.1 41 0))) (ic_gd (decide (0 ≤ Int32.toInt (x3 + 2)) && decide (Int32.toInt (x3 + 2) < Int32.toInt (g1211.1 41 0))) (ic_b2 (fX7_layFor (g1211.1 40 (Int32.toNatClampNeg (x3 + 1))) (g1211.1 40 (Int32.toNatClampNeg (x3 + 2))) g1211) (fun v1218 g1216 => (if v1213 = v1218 then lL_law_18 n (x3 + 6) g1216 else some (.inl (0, g1216))))))))) else (if ((g.1 40 (Int32.toNatClampNeg x3)) &&& 63) = 17 then ic_gd (decide (0 ≤ Int32.toInt (x3 + 1)) && decide (Int32.toInt (x3 + 1) < Int32.toInt (g.1 41 0))) (ic_gd (decide (0 ≤ Int32.toInt (x3 + 2)) && decide (Int32.toInt (x3 + 2) < Int32.toInt (g.1 41 0))) (ic_b2 (fX6_kindFor (g.1 40 (Int32.toNatClampNeg (x3 + 1))) (g.1 40 (Int32.toNatClampNeg (x3 + 2))) g) (fun v1224 g1222 => ic_gd (decide (0 ≤ Int32.toInt (x3 + 1)) && decide (Int32.toInt (x3 + 1) < Int32.toInt (g1222.1 41 0))) (ic_gd (decide (0 ≤ Int32.toInt (x3 + 2)) && decide (Int32.toInt (x3 + 2) < Int32.toInt (g1222.1 41 0))) (ic_b2 (fX7_kindFor (g1222.1 40 (Int32.toNatClampNeg (x3 + 1))) (g1222.1 40 (Int32.toNatClampNeg (x3 + 2))) g1222) (fun v1229 g1227 => (if v1224 = v1229 then lL_law_18 n (x3 + 6) g1227 else some (.inl (0, g1227))))))))) else (if ((g.1 40 (Int32.toNatClampNeg x3)) &&& 63) = 18 then ic_gd (decide (0 ≤ Int32.toInt (x3 + 1)) && decide (Int32.toInt (x3 + 1) < Int32.toInt (g.1 41 0))) (ic_gd (decide (0 ≤ Int32.toInt (x3 + 2)) && decide (Int32.toInt (x3 + 2) < Int32.toInt (g.1 41 0))) (ic_b2 (fX6_heavyFor (g.1 40 (Int32.toNatClampNeg (x3 + 1))) (g.1 40 (Int32.toNatClampNeg (x3 + 2))) g) (fun v1235 g1233 => ic_gd (decide (0 ≤ Int32.toInt (x3 + 1)) && decide (Int32.toInt (x3 + 1) < Int32.toInt (g1233.1 41 0))) (ic_gd (decide (0 ≤ Int32.toInt (x3 + 2)) && decide (Int32.toInt (x3 + 2) < Int32.toInt (g1233.1 41 0))) (ic_b2 (fX7_heavyFor (g1233.1 40 (Int32.toNatClampNeg (x3 + 1))) (g1233.1 40 (Int32.toNatClampNeg (x3 + 2))) g1233) (fun v1240 g1238 => (if v1235 = v1240 then lL_law_18 n (x3 + 6) g1238 else some (.inl (0, g1238))))))))) else (if ((g.1 40 (Int32.toNatClampNeg x3)) &&& 63) = 19 then ic_gd (decide (0 ≤ Int32.toInt (x3 + 1)) && decide (Int32.toInt (x3 + 1) < Int32.toInt (g.1 41 0))) (ic_b2 (fX6_holdFast (g.1 40 (Int32.toNatClampNeg (x3 + 1))) g) (fun v1245 g1243 => ic_gd (decide (0 ≤ Int32.toInt (x3 + 1)) && decide (Int32.toInt (x3 + 1) < Int32.toInt (g1243.1 41 0))) (ic_b2 (fX7_holdFast (g1243.1 40 (Int32.toNatClampNeg (x3 + 1))) g1243) (fun v1249 g1247 => (if v1245 = v1249 then lL_law_18 n (x3 + 6) g1247 else some (.inl (0, g1247))))))) else (if ((g.1 40 (Int32.toNatClampNeg x3)) &&& 63) = 20 then ic_gd (decide (0 ≤ Int32.toInt (x3 + 1)) && decide (Int32.toInt (x3 + 1) < Int32.toInt (g.1 41 0))) (ic_gd (decide (0 ≤ Int32.toInt (x3 + 2)) && decide (Int32.toInt (x3 + 2) < Int32.toInt (g.1 41 0))) (ic_b2 (fX6_fits (g.1 40 (Int32.toNatClampNeg (x3 + 1))) (g.1 40 (Int32.toNatClampNeg (x3 + 2))) g) (fun v1255 g1253 => ic_gd (decide (0 ≤ Int32.toInt (x3 + 1)) && decide (Int32.toInt (x3 + 1) < Int32.toInt (g1253.1 41 0))) (ic_gd (decide (0 ≤ Int32.toInt (x3 + 2)) && decide (Int32.toInt (x3 + 2) < Int32.toInt (g1253.1 41 0))) (ic_b2 (fX7_fits (g1253.1 40 (Int32.toNatClampNeg (x3 + 1))) (g1253.1 40 (Int32.toNatClampNeg (x3 + 2))) g1253) (fun v1260 g1258 => (if v1255 = v1260 then lL_law_18 n (x3 + 6) g1258 else some (.inl (0, g1258))))))))) else (if ((g.1 40 (Int32.toNatClampNeg x3)) &&& 63) = 21 then ic_gd (decide (0 ≤ Int32.toInt (x3 + 1)) && decide (Int32.toInt (x3 + 1) < Int32.toInt (g.1 41 0))) (ic_gd (decide (0 ≤ Int32.toInt (x3 + 2)) && decide (Int32.toInt (x3 + 2) < Int32.toInt (g.1 41 0))) (ic_b2 (fX6_kinds (g.1 40 (Int32.toNatClampNeg (x3 + 1))) (g.1 40 (Int32.toNatClampNeg (x3 + 2))) g) (fun v1266 g1264 => ic_gd (decide (0 ≤ Int32.toInt (x3 + 1)) && decide (Int32.toInt (x3 + 1) < Int32.toInt (g1264.1 41 0))) (ic_gd (decide (0 ≤ Int32.toInt (x3 + 2)) && decide (Int32.toInt (x3 + 2) < Int32.toInt (g1264.1 41 0))) (ic_b2 (fX7_kinds (g1264.1 40 (Int32.toNatClampNeg (x3 + 1))) (g1264.1 40 (Int32.toNatClampNeg (x3 + 2))) g1264) (fun v1271 g1269 => (if v1266 = v1271 then lL_law_18 n (x3 + 6) g1269 else some (.inl (0, g1269))))))))) else (if ((g.1 40 (Int32.toNatClampNeg x3)) &&& 63) = 22 then ic_gd (decide (0 ≤ Int32.toInt (x3 + 1)) && decide (Int32.toInt (x3 + 1) < Int32.toInt (g.1 41 0))) (ic_b2 (fX6_calls (g.1 40 (Int32.toNatClampNeg (x3 + 1))) g) (fun v1276 g1274 => ic_gd (decide (0 ≤ Int32.toInt (x3 + 1)) && decide (Int32.toInt (x3 + 1) < Int32.toInt (g1274.1 41 0))) (ic_b2 (fX7_calls (g1274.1 40 (Int32.toNatClampNeg (x3 + 1))) g1274) (fun v1280 g1278 => (if v1276 = v1280 then lL_law_18 n (x3 + 6) g1278 else some (.inl (0, g1278))))))) else (if ((g.1 40 (Int32.toNatClampNeg x3)) &&& 63) = 23 then ic_gd (decide (0 ≤ Int32.toInt (x3 + 1)) && decide (Int32.toInt (x3 + 1) < Int32.toInt (g.1 41 0))) (ic_gd (decide (0 ≤ Int32.toInt (x3 + 2)) && decide (Int32.toInt (x3 + 2) < Int32.toInt (g.1 41 0))) (ic_gd (decide (0 ≤ Int32.toInt (x3 + 3)) && decide (Int32.toInt (x3 + 3) < Int32.toInt (g.1 41 0))) (ic_gd (decide (0 ≤ Int32.toInt (x3 + 4)) && decide (Int32.toInt (x3 + 4) < Int32.toInt (g.1 41 0))) (ic_b2 (fX6_odds (g.1 40 (Int32.toNatClampNeg (x3 + 1))) (g.1 40 (Int32.toNatClampNeg (x3 + 2))) (g.1 40 (Int32.toNatClampNeg (x3 + 3))) (g.1 40 (Int32.toNatClampNeg (x3 + 4))) g) (fun v1288 g1286 => ic_gd (decide (0 ≤ Int32.toInt (x3 + 1)) && decide (Int32.toInt (x3 + 1) < Int32.toInt (g1286.1 41 0))) (ic_gd (decide (0 ≤ Int32.toInt (x3 + 2)) && decide (Int32.toInt (x3 + 2) < Int32.toInt (g1286.1 41 0))) (ic_gd (decide (0 ≤ Int32.toInt (x3 + 3)) && decide (Int32.toInt (x3 + 3) < Int32.toInt (g1286.1 41 0))) (ic_gd (decide (0 ≤ Int32.toInt (x3 + 4)) && decide (Int32.toInt (x3 + 4) < Int32.toInt (g1286.1 41 0))) (ic_b2 (fX7_odds (g1286.1 40 (Int32.toNatClampNeg (x3 + 1))) (g1286.1 40 (Int32.toNatClampNeg (x3 + 2))) (g1286.1 40 (Int32.toNatClampNeg (x3 + 3))) (g1286.1 40 (Int32.toNatClampNeg (x3 + 4))) g1286) (fun v1295 g1293 => (if (lg_cmp v1288 v1295) = 0 then lL_law_18 n (x3 + 6) g1293 else some (.inl (0, g1293))))))))))))) else (if ((g.1 40 (Int32.toNatClampNeg x3)) &&& 63) = 24 then ic_gd (decide (0 ≤ Int32.toInt (x3 + 1)) && decide (Int32.toInt (x3 + 1) < Int32.toInt (g.1 41 0))) (ic_b2 (fX6_seed (g.1 40 (Int32.toNatClampNeg (x3 + 1))) g) (fun v1300 g1298 => ic_gd (decide (0 ≤ Int32.toInt (x3 + 1)) && decide (Int32.toInt (x3 + 1) < Int32.toInt (g1298.1 41 0))) (ic_b2 (fX7_seed (g1298.1 40 (Int32.toNatClampNeg (x3 + 1))) g1298) (fun v1304 g1302 => (if v1300 = v1304 then lL_law_18 n (x3 + 6) g1302 else some (.inl (0, g1302))))))) else (if ((g.1 40 (Int32.toNatClampNeg x3)) &&& 63) = 25 then ic_gd (decide (0 ≤ Int32.toInt (x3 + 1)) && decide (Int32.toInt (x3 + 1) < Int32.toInt (g.1 41 0))) (ic_gd (decide (0 ≤ Int32.toInt (x3 + 2)) && decide (Int32.toInt (x3 + 2) < Int32.toInt (g.1 41 0))) (ic_b2 (fX6_feed (g.1 40 (Int32.toNatClampNeg (x3 + 1))) (g.1 40 (Int32.toNatClampNeg (x3 + 2))) g) (fun v1310 g1308 => ic_gd (decide (0 ≤ Int32.toInt (x3 + 1)) && decide (Int32.toInt (x3 + 1) < Int32.toInt (g1308.1 41 0))) (ic_gd (decide (0 ≤ Int32.toInt (x3 + 2)) && decide (Int32.toInt (x3 + 2) < Int32.toInt (g1308.1 41 0))) (ic_b2 (fX7_feed (g1308.1 40 (Int32.toNatClampNeg (x3 + 1))) (g1308.1 40 (Int32.toNatClampNeg (x3 + 2))) g1308) (fun v1315 g1313 => (if v1310 = v1315 then lL_law_18 n (x3 + 6) g1313 else some (.inl (0, g1313))))))))) else (if ((g.1 40 (Int32.toNatClampNeg x3)) &&& 63) = 26 then ic_b2 (fX6_wipe g) (fun v1319 g1317 => ic_b2 (fX7_wipe g1317) (fun v1322 g1320 => (if v1319 = v1322 then lL_law_18 n (x3 + 6) g1320 else some (.inl (0, g1320))))) else (if ((g.1 40 (Int32.toNatClampNeg x3)) &&& 63) = 27 then ic_b2 (fX6_text g) (fun v1326 g1324 => ic_b2 (fX7_text g1324) (fun v1329 g1327 => (if v1326 = v1329 then lL_law_18 n (x3 + 6) g1327 else some (.inl (0, g1327))))) else (if ((g.1 40 (Int32.toNatClampNeg x3)) &&& 63) = 28 then ic_gd (decide (0 ≤ Int32.toInt (x3 + 1)) && decide (Int32.toInt (x3 + 1) < Int32.toInt (g.1 41 0))) (ic_gd (decide (0 ≤ Int32.toInt (x3 + 2)) && decide (Int32.toInt (x3 + 2) < Int32.toInt (g.1 41 0))) (ic_b2 (fX6_hold (g.1 40 (Int32.toNatClampNeg (x3 + 1))) (g.1 40 (Int32.toNatClampNeg (x3 + 2))) g) (fun v1335 g1333 => ic_gd (decide (0 ≤ Int32.toInt (x3 + 1)) && decide (Int32.toInt (x3 + 1) < Int32.toInt (g1333.1 41 0))) (ic_gd (decide (0 ≤ Int32.toInt (x3 + 2)) && decide (Int32.toInt (x3 + 2) < Int32.toInt (g1333.1 41 0))) (ic_b2 (fX7_hold (g1333.1 40 (Int32.toNatClampNeg (x3 + 1))) (g1333.1 40 (Int32.toNatClampNeg (x3 + 2))) g1333) (fun v1340 g1338 => (if v1335 = v1340 then lL_law_18 n (x3 + 6) g1338 else some (.inl (0, g1338))))))))) else (if ((g.1 40 (Int32.toNatClampNeg x3)) &&& 63) = 29 then ic_gd (decide (0 ≤ Int32.toInt (x3 + 1)) && decide (Int32.toInt (x3 + 1) < Int32.toInt (g.1 41 0))) (ic_gd (decide (0 ≤ Int32.toInt (x3 + 2)) && decide (Int32.toInt (x3 + 2) < Int32.toInt (g.1 41 0))) (ic_b2 (fX6_as (g.1 40 (Int32.toNatClampNeg (x3 + 1))) (g.1 40 (Int32.toNatClampNeg (x3 + 2))) g) (fun v1346 g1344 => ic_gd (decide (0 ≤ Int32.toInt (x3 + 1)) && decide (Int32.toInt (x3 + 1) < Int32.toInt (g1344.1 41 0))) (ic_gd (decide (0 ≤ Int32.toInt (x3 + 2)) && decide (Int32.toInt (x3 + 2) < Int32.toInt (g1344.1 41 0))) (ic_b2 (fX7_as (g1344.1 40 (Int32.toNatClampNeg (x3 + 1))) (g1344.1 40 (Int32.toNatClampNeg (x3 + 2))) g1344) (fun v1351 g1349 => (if v1346 = v1351 then lL_law_18 n (x3 + 6) g1349 else some (.inl (0, g1349))))))))) else (if ((g.1 40 (Int32.toNatClampNeg x3)) &&& 63) = 30 then ic_gd (decide (0 ≤ Int32.toInt (x3 + 1)) && decide (Int32.toInt (x3 + 1) < Int32.toInt (g.1 41 0))) (ic_gd (decide (0 ≤ Int32.toInt (x3 + 2)) && decide (Int32.toInt (x3 + 2) < Int32.toInt (g.1 41 0))) (ic_gd (decide (0 ≤ Int32.toInt (x3 + 3)) && decide (Int32.toInt (x3 + 3) < Int32.toInt (g.1 41 0))) (ic_b2 (fX6_sheet (g.1 40 (Int32.toNatClampNeg (x3 + 1))) (g.1 40 (Int32.toNatClampNeg (x3 + 2))) (g.1 40 (Int32.toNatClampNeg (x3 + 3))) g) (fun v1358 g1356 => ic_gd (decide (0 ≤ Int32.toInt (x3 + 1)) && decide (Int32.toInt (x3 + 1) < Int32.toInt (g1356.1 41 0))) (ic_gd (decide (0 ≤ Int32.toInt (x3 + 2)) && decide (Int32.toInt (x3 + 2) < Int32.toInt (g1356.1 41 0))) (ic_gd (decide (0 ≤ Int32.toInt (x3 + 3)) && decide (Int32.toInt (x3 + 3) < Int32.toInt (g1356.1 41 0))) (ic_b2 (fX7_sheet (g1356.1 40 (Int32.toNatClampNeg (x3 + 1))) (g1356.1 40 (Int32.toNatClampNeg (x3 + 2))) (g1356.1 40 (Int32.toNatClampNeg (x3 + 3))) g1356) (fun v1364 g1362 => (if v1358 = v1364 then lL_law_18 n (x3 + 6) g1362 else some (.inl (0, g1362))))))))))) else (if ((g.1 40 (Int32.toNatClampNeg x3)) &&& 63) = 31 then ic_gd (decide (0 ≤ Int32.toInt (x3 + 1)) && decide (Int32.toInt (x3 + 1) < Int32.toInt (g.1 41 0))) (ic_gd (decide (0 ≤ Int32.toInt (x3 + 2)) && decide (Int32.toInt (x3 + 2) < Int32.toInt (g.1 41 0))) (ic_gd (decide (0 ≤ Int32.toInt (x3 + 3)) && decide (Int32.toInt (x3 + 3) < Int32.toInt (g.1 41 0))) (ic_b2 (fX6_write (g.1 40 (Int32.toNatClampNeg (x3 + 1))) (g.1 40 (Int32.toNatClampNeg (x3 + 2))) (g.1 40 (Int32.toNatClampNeg (x3 + 3))) g) (fun v1371 g1369 => ic_gd (decide (0 ≤ Int32.toInt (x3 + 1)) && decide (Int32.toInt (x3 + 1) < Int32.toInt (g1369.1 41 0))) (ic_gd (decide (0 ≤ Int32.toInt (x3 + 2)) && decide (Int32.toInt (x3 + 2) < Int32.toInt (g1369.1 41 0))) (ic_gd (decide (0 ≤ Int32.toInt (x3 + 3)) && decide (Int32.toInt (x3 + 3) < Int32.toInt (g1369.1 41 0))) (ic_b2 (fX7_write (g1369.1 40 (Int32.toNatClampNeg (x3 + 1))) (g1369.1 40 (Int32.toNatClampNeg (x3 + 2))) (g1369.1 40 (Int32.toNatClampNeg (x3 + 3))) g1369) (fun v1377 g1375 => (if v1371 = v1377 then lL_law_18 n (x3 + 6) g1375 else some (.inl (0, g1375))))))))))) else (if ((g.1 40 (Int32.toNatClampNeg x3)) &&& 63) = 32 then ic_gd (decide (0 ≤ Int32.toInt (x3 + 1)) && decide (Int32.toInt (x3 + 1) < Int32.toInt (g.1 41 0))) (ic_gd (decide (0 ≤ Int32.toInt (x3 + 2)) && decide (Int32.toInt (x3 + 2) < Int32.toInt (g.1 41 0))) (ic_gd (decide (0 ≤ Int32.toInt (x3 + 3)) && decide (Int32.toInt (x3 + 3) < Int32.toInt (g.1 41 0))) (ic_gd (decide (0 ≤ Int32.toInt (x3 + 4)) && decide (Int32.toInt (x3 + 4) < Int32.toInt (g.1 41 0))) (ic_gd (decide (0 ≤ Int32.toInt (x3 + 5)) && decide (Int32.toInt (x3 + 5) < Int32.toInt (g.1 41 0))) (ic_b2 (fX6_copy (g.1 40 (Int32.toNatClampNeg (x3 + 1))) (g.1 40 (Int32.toNatClampNeg (x3 + 2))) (g.1 40 (Int32.toNatClampNeg (x3 + 3))) (g.1 40 (Int32.toNatClampNeg (x3 + 4))) (g.1 40 (Int32.toNatClampNeg (x3 + 5))) g) (fun v1386 g1384 => ic_gd (decide (0 ≤ Int32.toInt (x3 + 1)) && decide (Int32.toInt (x3 + 1) < Int32.toInt (g1384.1 41 0))) (ic_gd (decide (0 ≤ Int32.toInt (x3 + 2)) && decide (Int32.toInt (x3 + 2) < Int32.toInt (g1384.1 41 0))) (ic_gd (decide (0 ≤ Int32.toInt (x3 + 3)) && decide (Int32.toInt (x3 + 3) < Int32.toInt (g1384.1 41 0))) (ic_gd (decide (0 ≤ Int32.toInt (x3 + 4)) && decide (Int32.toInt (x3 + 4) < Int32.toInt (g1384.1 41 0))) (ic_gd (decide (0 ≤ Int32.toInt (x3 + 5)) && decide (Int32.toInt (x3 + 5) < Int32.toInt (g1384.1 41 0))) (ic_b2 (fX7_copy (g1384.1 40 (Int32.toNatClampNeg (x3 + 1))) (g1384.1 40 (Int32.toNatClampNeg (x3 + 2))) (g1384.1 40 (Int32.toNatClampNeg (x3 + 3))) (g1384.1 40 (Int32.toNatClampNeg (x3 + 4))) (g1384.1 40 (Int32.toNatClampNeg (x3 + 5))) g1384) (fun v1394 g1392 => (if v1386 = v1394 then lL_law_18 n (x3 + 6) g1392 else some (.inl (0, g1392))))))))))))))) else (if ((g.1 40 (Int32.toNatClampNeg x3)) &&& 63) = 33 then ic_gd (decide (0 ≤ Int32.toInt (x3 + 1)) && decide (Int32.toInt (x3 + 1) < Int32.toInt (g.1 41 0))) (ic_b2 (fX6_load (g.1 40 (Int32.toNatClampNeg (x3 + 1))) g) (fun v1399 g1397 => ic_gd (decide (0 ≤ Int32.toInt (x3 + 1)) && decide (Int32.toInt (x3 + 1) < Int32.toInt (g1397.1 41 0))) (ic_b2 (fX7_load (g1397.1 40 (Int32.toNatClampNeg (x3 + 1))) g1397) (fun v1403 g1401 => (if v1399 = v1403 then lL_law_18 n (x3 + 6) g1401 else some (.inl (0, g1401))))))) else (if ((g.1 40 (Int32.toNatClampNeg x3)) &&& 63) = 34 then ic_gd (decide (0 ≤ Int32.toInt (x3 + 1)) && decide (Int32.toInt (x3 + 1) < Int32.toInt (g.1 41 0))) (ic_b2 (fX6_judge (g.1 40 (Int32.toNatClampNeg (x3 + 1))) g) (fun v1408 g1406 => ic_gd (decide (0 ≤ Int32.toInt (x3 + 1)) && decide (Int32.toInt (x3 + 1) < Int32.toInt (g1406.1 41 0))) (ic_b2 (fX7_judge (g1406.1 40 (Int32.toNatClampNeg (x3 + 1))) g1406) (fun v1412 g1410 => (if v1408 = v1412 then lL_law_18 n (x3 + 6) g1410 else some (.inl (0, g1410))))))) else (if ((g.1 40 (Int32.toNatClampNeg x3)) &&& 63) = 35 then ic_b2 (fX6_image g) (fun v1416 g1414 => ic_b2 (fX7_image g1414) (fun v1419 g1417 => (if v1416 = v1419 then lL_law_18 n (x3 + 6) g1417 else some (.inl (0, g1417))))) else (if ((g.1 40 (Int32.toNatClampNeg x3)) &&& 63) = 36 then ic_b2 (fX6_undo g) (fun v1423 g1421 => ic_b2 (fX7_undo g1421) (fun v1426 g1424 => (if v1423 = v1426 then lL_law_18 n (x3 + 6) g1424 else some (.inl (0, g1424))))) else (if ((g.1 40 (Int32.toNatClampNeg x3)) &&& 63) = 37 then ic_b2 (fX6_tear g) (fun v1430 g1428 => ic_b2 (fX7_tear g1428) (fun v1433 g1431 => (if v1430 = v1433 then lL_law_18 n (x3 + 6) g1431 else some (.inl (0, g1431))))) else (if ((g.1 40 (Int32.toNatClampNeg x3)) &&& 63) = 38 then ic_gd (decide (0 ≤ Int32.toInt (x3 + 1)) && decide (Int32.toInt (x3 + 1) < Int32.toInt (g.1 41 0))) (ic_b2 (fX6_count (g.1 40 (Int32.toNatClampNeg (x3 + 1))) g) (fun v1438 g1436 => ic_gd (decide (0 ≤ Int32.toInt (x3 + 1)) && decide (Int32.toInt (x3 + 1) < Int32.toInt (g1436.1 41 0))) (ic_b2 (fX7_count (g1436.1 40 (Int32.toNatClampNeg (x3 + 1))) g1436) (fun v1442 g1440 => (if v1438 = v1442 then lL_law_18 n (x3 + 6) g1440 else some (.inl (0, g1440))))))) else (if ((g.1 40 (Int32.toNatClampNeg x3)) &&& 63) = 39 then ic_gd (decide (0 ≤ Int32.toInt (x3 + 1)) && decide (Int32.toInt (x3 + 1) < Int32.toInt (g.1 41 0))) (ic_b2 (fX6_status (g.1 40 (Int32.toNatClampNeg (x3 + 1))) g) (fun v1447 g1445 => ic_gd (decide (0 ≤ Int32.toInt (x3 + 1)) && decide (Int32.toInt (x3 + 1) < Int32.toInt (g1445.1 41 0))) (ic_b2 (fX7_status (g1445.1 40 (Int32.toNatClampNeg (x3 + 1))) g1445) (fun v1451 g1449 => (if v1447 = v1451 then lL_law_18 n (x3 + 6) g1449 else some (.inl (0, g1449))))))) else lL_law_18 n (x3 + 6) g))))))))))))))))))))))))))))))))))))))))))
def fL_law (g : ic_S) : Option (Int32 × ic_S) := ic_bs (lL_law_18  1000 0 g) (fun y1 g2 => some (1, g2))
set_option maxHeartbeats 4000000 in
set_option maxRecDepth 20000 in
theorem tL_law_18 : ∀ (n : Nat) (x3 : Int32) (g : ic_S) (q : (Int32 × ic_S) ⊕ (Unit × ic_S)), lL_law_18 n x3 g = some q → ∀ (r : Option ic_V) (g' : ic_S), ic_lq q r g' (fun y z => ic_Ev mL_law 1385 [] [] z r g') → ic_Ev mL_law 18 [(0, ic_R 27 0 0), (1, ic_R 0 0 0), (2, ic_R 16 0 0), (3, ic_I x3)] [] g r g' := by
  intro n
  induction n with
  | zero => intro x3 g q h; cases h
  | succ n ih =>
    intro x3 g q h r g' hq
    rw [lL_law_18] at h
    refine ev_iload_n (a := 0) (b := 10) rfl rfl ?_
    refine ev_aload_n (a := 0) (b := 11) rfl rfl ?_
    refine ev_xlen (a := 0) (b := 12) rfl ?_
    refine ev_bipush (a := 0) (b := 13) 6 rfl (by decide) ?_
    refine ev_isub (a := 0) (b := 14) rfl ?_
    refine ev_icgt (a := 0) (b := 15) 1385 rfl rfl (fun c1001 => ?_) (fun c1001 => ?_)
    · have h := (if_pos c1001).symm.trans h
      obtain rfl := ic_s1 h
      exact ev_fw (lv' := []) hq trivial
    · have h := (if_neg c1001).symm.trans h
      refine ev_aload_n (a := 0) (b := 16) rfl rfl ?_
      refine ev_iload_n (a := 0) (b := 17) rfl rfl ?_
      obtain ⟨h1002, h⟩ := ic_gdE h
      refine ev_xald (a := 0) (b := 18) (ic_xin h1002) rfl ?_
      refine ev_bipush (a := 0) (b := 19) 63 rfl (by decide) ?_
      refine ev_iand (a := 0) (b := 20) rfl ?_
      rcases Decidable.em (((g.1 40 (Int32.toNatClampNeg x3)) &&& 63) = 0) with c1003 | c1003
      · have h := (if_pos c1003).symm.trans h
        refine ev_tsw1 (a := 0) (b := 21) 0 (175) 208 rfl c1003 (by decide) (by decide) rfl rfl ?_
        refine ev_aload_n (a := 0) (b := 22) rfl rfl ?_
        refine ev_aload_n (a := 0) (b := 23) rfl rfl ?_
        refine ev_iload_n (a := 0) (b := 24) rfl rfl ?_
        refine ev_iconst (a := 0) (b := 25) 1 rfl (by decide) ?_
        refine ev_iadd (a := 0) (b := 26) rfl ?_
        obtain ⟨h1043, h⟩ := ic_gdE h
        refine ev_xald (a := 0) (b := 27) (ic_xin h1043) rfl ?_
        refine ev_aload_n (a := 0) (b := 28) rfl rfl ?_
        refine ev_iload_n (a := 0) (b := 29) rfl rfl ?_
        refine ev_iconst (a := 0) (b := 30) 2 rfl (by decide) ?_
        refine ev_iadd (a := 0) (b := 31) rfl ?_
        obtain ⟨h1044, h⟩ := ic_gdE h
        refine ev_xald (a := 1) (b := 0) (ic_xin h1044) rfl ?_
        obtain ⟨v1047, g1045, e1046, h⟩ := ic_b2E h
        refine ev_ivI (a := 1) (b := 1) [ic_I (g.1 40 (Int32.toNatClampNeg (x3 + 1))), ic_I (g.1 40 (Int32.toNatClampNeg (x3 + 2)))] rfl okX6_set rfl lmL_13 rfl (rc0) (Nat.le_of_ble_eq_true rfl) (eX6_set e1046) (Nat.le_of_ble_eq_true rfl) rfl ?_
        refine ev_aload_n (a := 1) (b := 2) rfl rfl ?_
        refine ev_aload_n (a := 1) (b := 3) rfl rfl ?_
        refine ev_iload_n (a := 1) (b := 4) rfl rfl ?_
        refine ev_iconst (a := 1) (b := 5) 1 rfl (by decide) ?_
        refine ev_iadd (a := 1) (b := 6) rfl ?_
        obtain ⟨h1048, h⟩ := ic_gdE h
        refine ev_xald (a := 1) (b := 7) (ic_xin h1048) rfl ?_
        refine ev_aload_n (a := 1) (b := 8) rfl rfl ?_
        refine ev_iload_n (a := 1) (b := 9) rfl rfl ?_
        refine ev_iconst (a := 1) (b := 10) 2 rfl (by decide) ?_
        refine ev_iadd (a := 1) (b := 11) rfl ?_
        obtain ⟨h1049, h⟩ := ic_gdE h
        refine ev_xald (a := 1) (b := 12) (ic_xin h1049) rfl ?_
        obtain ⟨v1052, g1050, e1051, h⟩ := ic_b2E h
        refine ev_ivI (a := 1) (b := 13) [ic_I (g1045.1 40 (Int32.toNatClampNeg (x3 + 1))), ic_I (g1045.1 40 (Int32.toNatClampNeg (x3 + 2)))] rfl okX7_set rfl lmL_17 rfl (rc16) (Nat.le_of_ble_eq_true rfl) (eX7_set e1051) (Nat.le_of_ble_eq_true rfl) rfl ?_
        refine ev_iceq (a := 1) (b := 14) 1379 rfl rfl (fun c1053 => ?_) (fun c1053 => ?_)
        · have h := (if_pos c1053).symm.trans h
          refine ev_iinc (a := 29) (b := 25) (x3 + 6) [(0, ic_R 27 0 0), (1, ic_R 0 0 0), (2, ic_R 16 0 0), (3, ic_I (x3 + 6))] rfl rfl (by first | rfl | decide) (by decide) (And.intro (Or.inr (And.intro rfl rfl)) (And.intro (Or.inr (And.intro rfl rfl)) (And.intro (Or.inr (And.intro rfl rfl)) (And.intro (Or.inl rfl) trivial)))) ?_
          refine ev_goto (a := 29) (b := 26) 18 rfl rfl ?_
          refine ev_fw (lv' := [(0, ic_R 27 0 0), (1, ic_R 0 0 0), (2, ic_R 16 0 0), (3, ic_I (x3 + 6))]) ?_ (And.intro rfl (And.intro rfl (And.intro rfl (And.intro rfl trivial))))
          exact ih (x3 + 6) g1050 _ h _ _ hq
        · have h := (if_neg c1053).symm.trans h
          refine ev_iconst (a := 1) (b := 15) 0 rfl (by decide) ?_
          obtain rfl := ic_s1 h
          obtain ⟨rfl, rfl⟩ := hq
          exact ev_ireturn (a := 1) (b := 16) rfl rfl rfl
      · have h := (if_neg c1003).symm.trans h
        rcases Decidable.em (((g.1 40 (Int32.toNatClampNeg x3)) &&& 63) = 1) with c1004 | c1004
        · have h := (if_pos c1004).symm.trans h
          refine ev_tsw1 (a := 0) (b := 21) 1 (208) 241 rfl c1004 (by decide) (by decide) rfl rfl ?_
          refine ev_aload_n (a := 1) (b := 17) rfl rfl ?_
          refine ev_aload_n (a := 1) (b := 18) rfl rfl ?_
          refine ev_iload_n (a := 1) (b := 19) rfl rfl ?_
          refine ev_iconst (a := 1) (b := 20) 1 rfl (by decide) ?_
          refine ev_iadd (a := 1) (b := 21) rfl ?_
          obtain ⟨h1054, h⟩ := ic_gdE h
          refine ev_xald (a := 1) (b := 22) (ic_xin h1054) rfl ?_
          obtain ⟨v1057, g1055, e1056, h⟩ := ic_b2E h
          refine ev_ivI (a := 1) (b := 23) [ic_I (g.1 40 (Int32.toNatClampNeg (x3 + 1)))] rfl okX6_cart rfl lmL_18 rfl (rc0) (Nat.le_of_ble_eq_true rfl) (eX6_cart e1056) (Nat.le_of_ble_eq_true rfl) rfl ?_
          refine ev_aload_n (a := 1) (b := 24) rfl rfl ?_
          refine ev_aload_n (a := 1) (b := 25) rfl rfl ?_
          refine ev_iload_n (a := 1) (b := 26) rfl rfl ?_
          refine ev_iconst (a := 1) (b := 27) 1 rfl (by decide) ?_
          refine ev_iadd (a := 1) (b := 28) rfl ?_
          obtain ⟨h1058, h⟩ := ic_gdE h
          refine ev_xald (a := 1) (b := 29) (ic_xin h1058) rfl ?_
          obtain ⟨v1061, g1059, e1060, h⟩ := ic_b2E h
          refine ev_ivI (a := 1) (b := 30) [ic_I (g1055.1 40 (Int32.toNatClampNeg (x3 + 1)))] rfl okX7_cart rfl lmL_22 rfl (rc16) (Nat.le_of_ble_eq_true rfl) (eX7_cart e1060) (Nat.le_of_ble_eq_true rfl) rfl ?_
          refine ev_iceq (a := 1) (b := 31) 1379 rfl rfl (fun c1062 => ?_) (fun c1062 => ?_)
          · have h := (if_pos c1062).symm.trans h
            refine ev_iinc (a := 29) (b := 25) (x3 + 6) [(0, ic_R 27 0 0), (1, ic_R 0 0 0), (2, ic_R 16 0 0), (3, ic_I (x3 + 6))] rfl rfl (by first | rfl | decide) (by decide) (And.intro (Or.inr (And.intro rfl rfl)) (And.intro (Or.inr (And.intro rfl rfl)) (And.intro (Or.inr (And.intro rfl rfl)) (And.intro (Or.inl rfl) trivial)))) ?_
            refine ev_goto (a := 29) (b := 26) 18 rfl rfl ?_
            refine ev_fw (lv' := [(0, ic_R 27 0 0), (1, ic_R 0 0 0), (2, ic_R 16 0 0), (3, ic_I (x3 + 6))]) ?_ (And.intro rfl (And.intro rfl (And.intro rfl (And.intro rfl trivial))))
            exact ih (x3 + 6) g1059 _ h _ _ hq
          · have h := (if_neg c1062).symm.trans h
            refine ev_iconst (a := 2) (b := 0) 0 rfl (by decide) ?_
            obtain rfl := ic_s1 h
            obtain ⟨rfl, rfl⟩ := hq
            exact ev_ireturn (a := 2) (b := 1) rfl rfl rfl
        · have h := (if_neg c1004).symm.trans h
          rcases Decidable.em (((g.1 40 (Int32.toNatClampNeg x3)) &&& 63) = 2) with c1005 | c1005
          · have h := (if_pos c1005).symm.trans h
            refine ev_tsw1 (a := 0) (b := 21) 2 (231) 264 rfl c1005 (by decide) (by decide) rfl rfl ?_
            refine ev_aload_n (a := 2) (b := 2) rfl rfl ?_
            refine ev_aload_n (a := 2) (b := 3) rfl rfl ?_
            refine ev_iload_n (a := 2) (b := 4) rfl rfl ?_
            refine ev_iconst (a := 2) (b := 5) 1 rfl (by decide) ?_
            refine ev_iadd (a := 2) (b := 6) rfl ?_
            obtain ⟨h1063, h⟩ := ic_gdE h
            refine ev_xald (a := 2) (b := 7) (ic_xin h1063) rfl ?_
            refine ev_aload_n (a := 2) (b := 8) rfl rfl ?_
            refine ev_iload_n (a := 2) (b := 9) rfl rfl ?_
            refine ev_iconst (a := 2) (b := 10) 2 rfl (by decide) ?_
            refine ev_iadd (a := 2) (b := 11) rfl ?_
            obtain ⟨h1064, h⟩ := ic_gdE h
            refine ev_xald (a := 2) (b := 12) (ic_xin h1064) rfl ?_
            obtain ⟨v1067, g1065, e1066, h⟩ := ic_b2E h
            refine ev_ivI (a := 2) (b := 13) [ic_I (g.1 40 (Int32.toNatClampNeg (x3 + 1))), ic_I (g.1 40 (Int32.toNatClampNeg (x3 + 2)))] rfl okX6_thing rfl lmL_23 rfl (rc0) (Nat.le_of_ble_eq_true rfl) (eX6_thing e1066) (Nat.le_of_ble_eq_true rfl) rfl ?_
            refine ev_aload_n (a := 2) (b := 14) rfl rfl ?_
            refine ev_aload_n (a := 2) (b := 15) rfl rfl ?_
            refine ev_iload_n (a := 2) (b := 16) rfl rfl ?_
            refine ev_iconst (a := 2) (b := 17) 1 rfl (by decide) ?_
            refine ev_iadd (a := 2) (b := 18) rfl ?_
            obtain ⟨h1068, h⟩ := ic_gdE h
            refine ev_xald (a := 2) (b := 19) (ic_xin h1068) rfl ?_
            refine ev_aload_n (a := 2) (b := 20) rfl rfl ?_
            refine ev_iload_n (a := 2) (b := 21) rfl rfl ?_
            refine ev_iconst (a := 2) (b := 22) 2 rfl (by decide) ?_
            refine ev_iadd (a := 2) (b := 23) rfl ?_
            obtain ⟨h1069, h⟩ := ic_gdE h
            refine ev_xald (a := 2) (b := 24) (ic_xin h1069) rfl ?_
            obtain ⟨v1072, g1070, e1071, h⟩ := ic_b2E h
            refine ev_ivI (a := 2) (b := 25) [ic_I (g1065.1 40 (Int32.toNatClampNeg (x3 + 1))), ic_I (g1065.1 40 (Int32.toNatClampNeg (x3 + 2)))] rfl okX7_thing rfl lmL_26 rfl (rc16) (Nat.le_of_ble_eq_true rfl) (eX7_thing e1071) (Nat.le_of_ble_eq_true rfl) rfl ?_
            refine ev_iceq (a := 2) (b := 26) 1379 rfl rfl (fun c1073 => ?_) (fun c1073 => ?_)
            · have h := (if_pos c1073).symm.trans h
              refine ev_iinc (a := 29) (b := 25) (x3 + 6) [(0, ic_R 27 0 0), (1, ic_R 0 0 0), (2, ic_R 16 0 0), (3, ic_I (x3 + 6))] rfl rfl (by first | rfl | decide) (by decide) (And.intro (Or.inr (And.intro rfl rfl)) (And.intro (Or.inr (And.intro rfl rfl)) (And.intro (Or.inr (And.intro rfl rfl)) (And.intro (Or.inl rfl) trivial)))) ?_
              refine ev_goto (a := 29) (b := 26) 18 rfl rfl ?_
              refine ev_fw (lv' := [(0, ic_R 27 0 0), (1, ic_R 0 0 0), (2, ic_R 16 0 0), (3, ic_I (x3 + 6))]) ?_ (And.intro rfl (And.intro rfl (And.intro rfl (And.intro rfl trivial))))
              exact ih (x3 + 6) g1070 _ h _ _ hq
            · have h := (if_neg c1073).symm.trans h
              refine ev_iconst (a := 2) (b := 27) 0 rfl (by decide) ?_
              obtain rfl := ic_s1 h
              obtain ⟨rfl, rfl⟩ := hq
              exact ev_ireturn (a := 2) (b := 28) rfl rfl rfl
          · have h := (if_neg c1005).symm.trans h
            rcases Decidable.em (((g.1 40 (Int32.toNatClampNeg x3)) &&& 63) = 3) with c1006 | c1006
            · have h := (if_pos c1006).symm.trans h
              refine ev_tsw1 (a := 0) (b := 21) 3 (264) 297 rfl c1006 (by decide) (by decide) rfl rfl ?_
              refine ev_aload_n (a := 2) (b := 29) rfl rfl ?_
              refine ev_aload_n (a := 2) (b := 30) rfl rfl ?_
              refine ev_iload_n (a := 2) (b := 31) rfl rfl ?_
              refine ev_iconst (a := 3) (b := 0) 1 rfl (by decide) ?_
              refine ev_iadd (a := 3) (b := 1) rfl ?_
              obtain ⟨h1074, h⟩ := ic_gdE h
              refine ev_xald (a := 3) (b := 2) (ic_xin h1074) rfl ?_
              refine ev_aload_n (a := 3) (b := 3) rfl rfl ?_
              refine ev_iload_n (a := 3) (b := 4) rfl rfl ?_
              refine ev_iconst (a := 3) (b := 5) 2 rfl (by decide) ?_
              refine ev_iadd (a := 3) (b := 6) rfl ?_
              obtain ⟨h1075, h⟩ := ic_gdE h
              refine ev_xald (a := 3) (b := 7) (ic_xin h1075) rfl ?_
              obtain ⟨v1078, g1076, e1077, h⟩ := ic_b2E h
              refine ev_ivI (a := 3) (b := 8) [ic_I (g.1 40 (Int32.toNatClampNeg (x3 + 1))), ic_I (g.1 40 (Int32.toNatClampNeg (x3 + 2)))] rfl okX6_of rfl lmL_27 rfl (rc0) (Nat.le_of_ble_eq_true rfl) (eX6_of e1077) (Nat.le_of_ble_eq_true rfl) rfl ?_
              refine ev_aload_n (a := 3) (b := 9) rfl rfl ?_
              refine ev_aload_n (a := 3) (b := 10) rfl rfl ?_
              refine ev_iload_n (a := 3) (b := 11) rfl rfl ?_
              refine ev_iconst (a := 3) (b := 12) 1 rfl (by decide) ?_
              refine ev_iadd (a := 3) (b := 13) rfl ?_
              obtain ⟨h1079, h⟩ := ic_gdE h
              refine ev_xald (a := 3) (b := 14) (ic_xin h1079) rfl ?_
              refine ev_aload_n (a := 3) (b := 15) rfl rfl ?_
              refine ev_iload_n (a := 3) (b := 16) rfl rfl ?_
              refine ev_iconst (a := 3) (b := 17) 2 rfl (by decide) ?_
              refine ev_iadd (a := 3) (b := 18) rfl ?_
              obtain ⟨h1080, h⟩ := ic_gdE h
              refine ev_xald (a := 3) (b := 19) (ic_xin h1080) rfl ?_
              obtain ⟨v1083, g1081, e1082, h⟩ := ic_b2E h
              refine ev_ivI (a := 3) (b := 20) [ic_I (g1076.1 40 (Int32.toNatClampNeg (x3 + 1))), ic_I (g1076.1 40 (Int32.toNatClampNeg (x3 + 2)))] rfl okX7_of rfl lmL_30 rfl (rc16) (Nat.le_of_ble_eq_true rfl) (eX7_of e1082) (Nat.le_of_ble_eq_true rfl) rfl ?_
              refine ev_iceq (a := 3) (b := 21) 1379 rfl rfl (fun c1084 => ?_) (fun c1084 => ?_)
              · have h := (if_pos c1084).symm.trans h
                refine ev_iinc (a := 29) (b := 25) (x3 + 6) [(0, ic_R 27 0 0), (1, ic_R 0 0 0), (2, ic_R 16 0 0), (3, ic_I (x3 + 6))] rfl rfl (by first | rfl | decide) (by decide) (And.intro (Or.inr (And.intro rfl rfl)) (And.intro (Or.inr (And.intro rfl rfl)) (And.intro (Or.inr (And.intro rfl rfl)) (And.intro (Or.inl rfl) trivial)))) ?_
                refine ev_goto (a := 29) (b := 26) 18 rfl rfl ?_
                refine ev_fw (lv' := [(0, ic_R 27 0 0), (1, ic_R 0 0 0), (2, ic_R 16 0 0), (3, ic_I (x3 + 6))]) ?_ (And.intro rfl (And.intro rfl (And.intro rfl (And.intro rfl trivial))))
                exact ih (x3 + 6) g1081 _ h _ _ hq
              · have h := (if_neg c1084).symm.trans h
                refine ev_iconst (a := 3) (b := 22) 0 rfl (by decide) ?_
                obtain rfl := ic_s1 h
                obtain ⟨rfl, rfl⟩ := hq
                exact ev_ireturn (a := 3) (b := 23) rfl rfl rfl
            · have h := (if_neg c1006).symm.trans h
              rcases Decidable.em (((g.1 40 (Int32.toNatClampNeg x3)) &&& 63) = 4) with c1007 | c1007
              · have h := (if_pos c1007).symm.trans h
                refine ev_tsw1 (a := 0) (b := 21) 4 (297) 330 rfl c1007 (by decide) (by decide) rfl rfl ?_
                refine ev_aload_n (a := 3) (b := 24) rfl rfl ?_
                refine ev_aload_n (a := 3) (b := 25) rfl rfl ?_
                refine ev_iload_n (a := 3) (b := 26) rfl rfl ?_
                refine ev_iconst (a := 3) (b := 27) 1 rfl (by decide) ?_
                refine ev_iadd (a := 3) (b := 28) rfl ?_
                obtain ⟨h1085, h⟩ := ic_gdE h
                refine ev_xald (a := 3) (b := 29) (ic_xin h1085) rfl ?_
                refine ev_aload_n (a := 3) (b := 30) rfl rfl ?_
                refine ev_iload_n (a := 3) (b := 31) rfl rfl ?_
                refine ev_iconst (a := 4) (b := 0) 2 rfl (by decide) ?_
                refine ev_iadd (a := 4) (b := 1) rfl ?_
                obtain ⟨h1086, h⟩ := ic_gdE h
                refine ev_xald (a := 4) (b := 2) (ic_xin h1086) rfl ?_
                refine ev_aload_n (a := 4) (b := 3) rfl rfl ?_
                refine ev_iload_n (a := 4) (b := 4) rfl rfl ?_
                refine ev_iconst (a := 4) (b := 5) 3 rfl (by decide) ?_
                refine ev_iadd (a := 4) (b := 6) rfl ?_
                obtain ⟨h1087, h⟩ := ic_gdE h
                refine ev_xald (a := 4) (b := 7) (ic_xin h1087) rfl ?_
                obtain ⟨v1090, g1088, e1089, h⟩ := ic_b2E h
                refine ev_ivI (a := 4) (b := 8) [ic_I (g.1 40 (Int32.toNatClampNeg (x3 + 1))), ic_I (g.1 40 (Int32.toNatClampNeg (x3 + 2))), ic_I (g.1 40 (Int32.toNatClampNeg (x3 + 3)))] rfl okX6_change rfl lmL_31 rfl (rc0) (Nat.le_of_ble_eq_true rfl) (eX6_change e1089) (Nat.le_of_ble_eq_true rfl) rfl ?_
                refine ev_aload_n (a := 4) (b := 9) rfl rfl ?_
                refine ev_aload_n (a := 4) (b := 10) rfl rfl ?_
                refine ev_iload_n (a := 4) (b := 11) rfl rfl ?_
                refine ev_iconst (a := 4) (b := 12) 1 rfl (by decide) ?_
                refine ev_iadd (a := 4) (b := 13) rfl ?_
                obtain ⟨h1091, h⟩ := ic_gdE h
                refine ev_xald (a := 4) (b := 14) (ic_xin h1091) rfl ?_
                refine ev_aload_n (a := 4) (b := 15) rfl rfl ?_
                refine ev_iload_n (a := 4) (b := 16) rfl rfl ?_
                refine ev_iconst (a := 4) (b := 17) 2 rfl (by decide) ?_
                refine ev_iadd (a := 4) (b := 18) rfl ?_
                obtain ⟨h1092, h⟩ := ic_gdE h
                refine ev_xald (a := 4) (b := 19) (ic_xin h1092) rfl ?_
                refine ev_aload_n (a := 4) (b := 20) rfl rfl ?_
                refine ev_iload_n (a := 4) (b := 21) rfl rfl ?_
                refine ev_iconst (a := 4) (b := 22) 3 rfl (by decide) ?_
                refine ev_iadd (a := 4) (b := 23) rfl ?_
                obtain ⟨h1093, h⟩ := ic_gdE h
                refine ev_xald (a := 4) (b := 24) (ic_xin h1093) rfl ?_
                obtain ⟨v1096, g1094, e1095, h⟩ := ic_b2E h
                refine ev_ivI (a := 4) (b := 25) [ic_I (g1088.1 40 (Int32.toNatClampNeg (x3 + 1))), ic_I (g1088.1 40 (Int32.toNatClampNeg (x3 + 2))), ic_I (g1088.1 40 (Int32.toNatClampNeg (x3 + 3)))] rfl okX7_change rfl lmL_35 rfl (rc16) (Nat.le_of_ble_eq_true rfl) (eX7_change e1095) (Nat.le_of_ble_eq_true rfl) rfl ?_
                refine ev_iceq (a := 4) (b := 26) 1379 rfl rfl (fun c1097 => ?_) (fun c1097 => ?_)
                · have h := (if_pos c1097).symm.trans h
                  refine ev_iinc (a := 29) (b := 25) (x3 + 6) [(0, ic_R 27 0 0), (1, ic_R 0 0 0), (2, ic_R 16 0 0), (3, ic_I (x3 + 6))] rfl rfl (by first | rfl | decide) (by decide) (And.intro (Or.inr (And.intro rfl rfl)) (And.intro (Or.inr (And.intro rfl rfl)) (And.intro (Or.inr (And.intro rfl rfl)) (And.intro (Or.inl rfl) trivial)))) ?_
                  refine ev_goto (a := 29) (b := 26) 18 rfl rfl ?_
                  refine ev_fw (lv' := [(0, ic_R 27 0 0), (1, ic_R 0 0 0), (2, ic_R 16 0 0), (3, ic_I (x3 + 6))]) ?_ (And.intro rfl (And.intro rfl (And.intro rfl (And.intro rfl trivial))))
                  exact ih (x3 + 6) g1094 _ h _ _ hq
                · have h := (if_neg c1097).symm.trans h
                  refine ev_iconst (a := 4) (b := 27) 0 rfl (by decide) ?_
                  obtain rfl := ic_s1 h
                  obtain ⟨rfl, rfl⟩ := hq
                  exact ev_ireturn (a := 4) (b := 28) rfl rfl rfl
              · have h := (if_neg c1007).symm.trans h
                rcases Decidable.em (((g.1 40 (Int32.toNatClampNeg x3)) &&& 63) = 5) with c1008 | c1008
                · have h := (if_pos c1008).symm.trans h
                  refine ev_tsw1 (a := 0) (b := 21) 5 (340) 373 rfl c1008 (by decide) (by decide) rfl rfl ?_
                  refine ev_aload_n (a := 4) (b := 29) rfl rfl ?_
                  refine ev_aload_n (a := 4) (b := 30) rfl rfl ?_
                  refine ev_iload_n (a := 4) (b := 31) rfl rfl ?_
                  refine ev_iconst (a := 5) (b := 0) 1 rfl (by decide) ?_
                  refine ev_iadd (a := 5) (b := 1) rfl ?_
                  obtain ⟨h1098, h⟩ := ic_gdE h
                  refine ev_xald (a := 5) (b := 2) (ic_xin h1098) rfl ?_
                  obtain ⟨v1101, g1099, e1100, h⟩ := ic_b2E h
                  refine ev_ivI (a := 5) (b := 3) [ic_I (g.1 40 (Int32.toNatClampNeg (x3 + 1)))] rfl okX6_who rfl lmL_36 rfl (rc0) (Nat.le_of_ble_eq_true rfl) (eX6_who e1100) (Nat.le_of_ble_eq_true rfl) rfl ?_
                  refine ev_aload_n (a := 5) (b := 4) rfl rfl ?_
                  refine ev_aload_n (a := 5) (b := 5) rfl rfl ?_
                  refine ev_iload_n (a := 5) (b := 6) rfl rfl ?_
                  refine ev_iconst (a := 5) (b := 7) 1 rfl (by decide) ?_
                  refine ev_iadd (a := 5) (b := 8) rfl ?_
                  obtain ⟨h1102, h⟩ := ic_gdE h
                  refine ev_xald (a := 5) (b := 9) (ic_xin h1102) rfl ?_
                  obtain ⟨v1105, g1103, e1104, h⟩ := ic_b2E h
                  refine ev_ivI (a := 5) (b := 10) [ic_I (g1099.1 40 (Int32.toNatClampNeg (x3 + 1)))] rfl okX7_who rfl lmL_39 rfl (rc16) (Nat.le_of_ble_eq_true rfl) (eX7_who e1104) (Nat.le_of_ble_eq_true rfl) rfl ?_
                  refine ev_iceq (a := 5) (b := 11) 1379 rfl rfl (fun c1106 => ?_) (fun c1106 => ?_)
                  · have h := (if_pos c1106).symm.trans h
                    refine ev_iinc (a := 29) (b := 25) (x3 + 6) [(0, ic_R 27 0 0), (1, ic_R 0 0 0), (2, ic_R 16 0 0), (3, ic_I (x3 + 6))] rfl rfl (by first | rfl | decide) (by decide) (And.intro (Or.inr (And.intro rfl rfl)) (And.intro (Or.inr (And.intro rfl rfl)) (And.intro (Or.inr (And.intro rfl rfl)) (And.intro (Or.inl rfl) trivial)))) ?_
                    refine ev_goto (a := 29) (b := 26) 18 rfl rfl ?_
                    refine ev_fw (lv' := [(0, ic_R 27 0 0), (1, ic_R 0 0 0), (2, ic_R 16 0 0), (3, ic_I (x3 + 6))]) ?_ (And.intro rfl (And.intro rfl (And.intro rfl (And.intro rfl trivial))))
                    exact ih (x3 + 6) g1103 _ h _ _ hq
                  · have h := (if_neg c1106).symm.trans h
                    refine ev_iconst (a := 5) (b := 12) 0 rfl (by decide) ?_
                    obtain rfl := ic_s1 h
                    obtain ⟨rfl, rfl⟩ := hq
                    exact ev_ireturn (a := 5) (b := 13) rfl rfl rfl
                · have h := (if_neg c1008).symm.trans h
                  rcases Decidable.em (((g.1 40 (Int32.toNatClampNeg x3)) &&& 63) = 6) with c1009 | c1009
                  · have h := (if_pos c1009).symm.trans h
                    refine ev_tsw1 (a := 0) (b := 21) 6 (363) 396 rfl c1009 (by decide) (by decide) rfl rfl ?_
                    refine ev_aload_n (a := 5) (b := 14) rfl rfl ?_
                    refine ev_aload_n (a := 5) (b := 15) rfl rfl ?_
                    refine ev_iload_n (a := 5) (b := 16) rfl rfl ?_
                    refine ev_iconst (a := 5) (b := 17) 1 rfl (by decide) ?_
                    refine ev_iadd (a := 5) (b := 18) rfl ?_
                    obtain ⟨h1107, h⟩ := ic_gdE h
                    refine ev_xald (a := 5) (b := 19) (ic_xin h1107) rfl ?_
                    obtain ⟨v1110, g1108, e1109, h⟩ := ic_b2E h
                    refine ev_ivI (a := 5) (b := 20) [ic_I (g.1 40 (Int32.toNatClampNeg (x3 + 1)))] rfl okX6_go rfl lmL_40 rfl (rc0) (Nat.le_of_ble_eq_true rfl) (eX6_go e1109) (Nat.le_of_ble_eq_true rfl) rfl ?_
                    refine ev_aload_n (a := 5) (b := 21) rfl rfl ?_
                    refine ev_aload_n (a := 5) (b := 22) rfl rfl ?_
                    refine ev_iload_n (a := 5) (b := 23) rfl rfl ?_
                    refine ev_iconst (a := 5) (b := 24) 1 rfl (by decide) ?_
                    refine ev_iadd (a := 5) (b := 25) rfl ?_
                    obtain ⟨h1111, h⟩ := ic_gdE h
                    refine ev_xald (a := 5) (b := 26) (ic_xin h1111) rfl ?_
                    obtain ⟨v1114, g1112, e1113, h⟩ := ic_b2E h
                    refine ev_ivI (a := 5) (b := 27) [ic_I (g1108.1 40 (Int32.toNatClampNeg (x3 + 1)))] rfl okX7_go rfl lmL_43 rfl (rc16) (Nat.le_of_ble_eq_true rfl) (eX7_go e1113) (Nat.le_of_ble_eq_true rfl) rfl ?_
                    refine ev_iceq (a := 5) (b := 28) 1379 rfl rfl (fun c1115 => ?_) (fun c1115 => ?_)
                    · have h := (if_pos c1115).symm.trans h
                      refine ev_iinc (a := 29) (b := 25) (x3 + 6) [(0, ic_R 27 0 0), (1, ic_R 0 0 0), (2, ic_R 16 0 0), (3, ic_I (x3 + 6))] rfl rfl (by first | rfl | decide) (by decide) (And.intro (Or.inr (And.intro rfl rfl)) (And.intro (Or.inr (And.intro rfl rfl)) (And.intro (Or.inr (And.intro rfl rfl)) (And.intro (Or.inl rfl) trivial)))) ?_
                      refine ev_goto (a := 29) (b := 26) 18 rfl rfl ?_
                      refine ev_fw (lv' := [(0, ic_R 27 0 0), (1, ic_R 0 0 0), (2, ic_R 16 0 0), (3, ic_I (x3 + 6))]) ?_ (And.intro rfl (And.intro rfl (And.intro rfl (And.intro rfl trivial))))
                      exact ih (x3 + 6) g1112 _ h _ _ hq
                    · have h := (if_neg c1115).symm.trans h
                      refine ev_iconst (a := 5) (b := 29) 0 rfl (by decide) ?_
                      obtain rfl := ic_s1 h
                      obtain ⟨rfl, rfl⟩ := hq
                      exact ev_ireturn (a := 5) (b := 30) rfl rfl rfl
                  · have h := (if_neg c1009).symm.trans h
                    rcases Decidable.em (((g.1 40 (Int32.toNatClampNeg x3)) &&& 63) = 7) with c1010 | c1010
                    · have h := (if_pos c1010).symm.trans h
                      refine ev_tsw1 (a := 0) (b := 21) 7 (386) 419 rfl c1010 (by decide) (by decide) rfl rfl ?_
                      refine ev_aload_n (a := 5) (b := 31) rfl rfl ?_
                      refine ev_aload_n (a := 6) (b := 0) rfl rfl ?_
                      refine ev_iload_n (a := 6) (b := 1) rfl rfl ?_
                      refine ev_iconst (a := 6) (b := 2) 1 rfl (by decide) ?_
                      refine ev_iadd (a := 6) (b := 3) rfl ?_
                      obtain ⟨h1116, h⟩ := ic_gdE h
                      refine ev_xald (a := 6) (b := 4) (ic_xin h1116) rfl ?_
                      obtain ⟨v1119, g1117, e1118, h⟩ := ic_b2E h
                      refine ev_ivI (a := 6) (b := 5) [ic_I (g.1 40 (Int32.toNatClampNeg (x3 + 1)))] rfl okX6_now rfl lmL_44 rfl (rc0) (Nat.le_of_ble_eq_true rfl) (eX6_now e1118) (Nat.le_of_ble_eq_true rfl) rfl ?_
                      refine ev_aload_n (a := 6) (b := 6) rfl rfl ?_
                      refine ev_aload_n (a := 6) (b := 7) rfl rfl ?_
                      refine ev_iload_n (a := 6) (b := 8) rfl rfl ?_
                      refine ev_iconst (a := 6) (b := 9) 1 rfl (by decide) ?_
                      refine ev_iadd (a := 6) (b := 10) rfl ?_
                      obtain ⟨h1120, h⟩ := ic_gdE h
                      refine ev_xald (a := 6) (b := 11) (ic_xin h1120) rfl ?_
                      obtain ⟨v1123, g1121, e1122, h⟩ := ic_b2E h
                      refine ev_ivI (a := 6) (b := 12) [ic_I (g1117.1 40 (Int32.toNatClampNeg (x3 + 1)))] rfl okX7_now rfl lmL_47 rfl (rc16) (Nat.le_of_ble_eq_true rfl) (eX7_now e1122) (Nat.le_of_ble_eq_true rfl) rfl ?_
                      refine ev_iceq (a := 6) (b := 13) 1379 rfl rfl (fun c1124 => ?_) (fun c1124 => ?_)
                      · have h := (if_pos c1124).symm.trans h
                        refine ev_iinc (a := 29) (b := 25) (x3 + 6) [(0, ic_R 27 0 0), (1, ic_R 0 0 0), (2, ic_R 16 0 0), (3, ic_I (x3 + 6))] rfl rfl (by first | rfl | decide) (by decide) (And.intro (Or.inr (And.intro rfl rfl)) (And.intro (Or.inr (And.intro rfl rfl)) (And.intro (Or.inr (And.intro rfl rfl)) (And.intro (Or.inl rfl) trivial)))) ?_
                        refine ev_goto (a := 29) (b := 26) 18 rfl rfl ?_
                        refine ev_fw (lv' := [(0, ic_R 27 0 0), (1, ic_R 0 0 0), (2, ic_R 16 0 0), (3, ic_I (x3 + 6))]) ?_ (And.intro rfl (And.intro rfl (And.intro rfl (And.intro rfl trivial))))
                        exact ih (x3 + 6) g1121 _ h _ _ hq
                      · have h := (if_neg c1124).symm.trans h
                        refine ev_iconst (a := 6) (b := 14) 0 rfl (by decide) ?_
                        obtain rfl := ic_s1 h
                        obtain ⟨rfl, rfl⟩ := hq
                        exact ev_ireturn (a := 6) (b := 15) rfl rfl rfl
                    · have h := (if_neg c1010).symm.trans h
                      rcases Decidable.em (((g.1 40 (Int32.toNatClampNeg x3)) &&& 63) = 8) with c1011 | c1011
                      · have h := (if_pos c1011).symm.trans h
                        refine ev_tsw1 (a := 0) (b := 21) 8 (409) 442 rfl c1011 (by decide) (by decide) rfl rfl ?_
                        refine ev_aload_n (a := 6) (b := 16) rfl rfl ?_
                        refine ev_aload_n (a := 6) (b := 17) rfl rfl ?_
                        refine ev_iload_n (a := 6) (b := 18) rfl rfl ?_
                        refine ev_iconst (a := 6) (b := 19) 1 rfl (by decide) ?_
                        refine ev_iadd (a := 6) (b := 20) rfl ?_
                        obtain ⟨h1125, h⟩ := ic_gdE h
                        refine ev_xald (a := 6) (b := 21) (ic_xin h1125) rfl ?_
                        refine ev_aload_n (a := 6) (b := 22) rfl rfl ?_
                        refine ev_iload_n (a := 6) (b := 23) rfl rfl ?_
                        refine ev_iconst (a := 6) (b := 24) 2 rfl (by decide) ?_
                        refine ev_iadd (a := 6) (b := 25) rfl ?_
                        obtain ⟨h1126, h⟩ := ic_gdE h
                        refine ev_xald (a := 6) (b := 26) (ic_xin h1126) rfl ?_
                        refine ev_aload_n (a := 6) (b := 27) rfl rfl ?_
                        refine ev_iload_n (a := 6) (b := 28) rfl rfl ?_
                        refine ev_iconst (a := 6) (b := 29) 3 rfl (by decide) ?_
                        refine ev_iadd (a := 6) (b := 30) rfl ?_
                        obtain ⟨h1127, h⟩ := ic_gdE h
                        refine ev_xald (a := 6) (b := 31) (ic_xin h1127) rfl ?_
                        obtain ⟨v1130, g1128, e1129, h⟩ := ic_b2E h
                        refine ev_ivI (a := 7) (b := 0) [ic_I (g.1 40 (Int32.toNatClampNeg (x3 + 1))), ic_I (g.1 40 (Int32.toNatClampNeg (x3 + 2))), ic_I (g.1 40 (Int32.toNatClampNeg (x3 + 3)))] rfl okX6_ahead rfl lmL_48 rfl (rc0) (Nat.le_of_ble_eq_true rfl) (eX6_ahead e1129) (Nat.le_of_ble_eq_true rfl) rfl ?_
                        refine ev_aload_n (a := 7) (b := 1) rfl rfl ?_
                        refine ev_aload_n (a := 7) (b := 2) rfl rfl ?_
                        refine ev_iload_n (a := 7) (b := 3) rfl rfl ?_
                        refine ev_iconst (a := 7) (b := 4) 1 rfl (by decide) ?_
                        refine ev_iadd (a := 7) (b := 5) rfl ?_
                        obtain ⟨h1131, h⟩ := ic_gdE h
                        refine ev_xald (a := 7) (b := 6) (ic_xin h1131) rfl ?_
                        refine ev_aload_n (a := 7) (b := 7) rfl rfl ?_
                        refine ev_iload_n (a := 7) (b := 8) rfl rfl ?_
                        refine ev_iconst (a := 7) (b := 9) 2 rfl (by decide) ?_
                        refine ev_iadd (a := 7) (b := 10) rfl ?_
                        obtain ⟨h1132, h⟩ := ic_gdE h
                        refine ev_xald (a := 7) (b := 11) (ic_xin h1132) rfl ?_
                        refine ev_aload_n (a := 7) (b := 12) rfl rfl ?_
                        refine ev_iload_n (a := 7) (b := 13) rfl rfl ?_
                        refine ev_iconst (a := 7) (b := 14) 3 rfl (by decide) ?_
                        refine ev_iadd (a := 7) (b := 15) rfl ?_
                        obtain ⟨h1133, h⟩ := ic_gdE h
                        refine ev_xald (a := 7) (b := 16) (ic_xin h1133) rfl ?_
                        obtain ⟨v1136, g1134, e1135, h⟩ := ic_b2E h
                        refine ev_ivI (a := 7) (b := 17) [ic_I (g1128.1 40 (Int32.toNatClampNeg (x3 + 1))), ic_I (g1128.1 40 (Int32.toNatClampNeg (x3 + 2))), ic_I (g1128.1 40 (Int32.toNatClampNeg (x3 + 3)))] rfl okX7_ahead rfl lmL_51 rfl (rc16) (Nat.le_of_ble_eq_true rfl) (eX7_ahead e1135) (Nat.le_of_ble_eq_true rfl) rfl ?_
                        refine ev_iceq (a := 7) (b := 18) 1379 rfl rfl (fun c1137 => ?_) (fun c1137 => ?_)
                        · have h := (if_pos c1137).symm.trans h
                          refine ev_iinc (a := 29) (b := 25) (x3 + 6) [(0, ic_R 27 0 0), (1, ic_R 0 0 0), (2, ic_R 16 0 0), (3, ic_I (x3 + 6))] rfl rfl (by first | rfl | decide) (by decide) (And.intro (Or.inr (And.intro rfl rfl)) (And.intro (Or.inr (And.intro rfl rfl)) (And.intro (Or.inr (And.intro rfl rfl)) (And.intro (Or.inl rfl) trivial)))) ?_
                          refine ev_goto (a := 29) (b := 26) 18 rfl rfl ?_
                          refine ev_fw (lv' := [(0, ic_R 27 0 0), (1, ic_R 0 0 0), (2, ic_R 16 0 0), (3, ic_I (x3 + 6))]) ?_ (And.intro rfl (And.intro rfl (And.intro rfl (And.intro rfl trivial))))
                          exact ih (x3 + 6) g1134 _ h _ _ hq
                        · have h := (if_neg c1137).symm.trans h
                          refine ev_iconst (a := 7) (b := 19) 0 rfl (by decide) ?_
                          obtain rfl := ic_s1 h
                          obtain ⟨rfl, rfl⟩ := hq
                          exact ev_ireturn (a := 7) (b := 20) rfl rfl rfl
                      · have h := (if_neg c1011).symm.trans h
                        rcases Decidable.em (((g.1 40 (Int32.toNatClampNeg x3)) &&& 63) = 9) with c1012 | c1012
                        · have h := (if_pos c1012).symm.trans h
                          refine ev_tsw1 (a := 0) (b := 21) 9 (452) 485 rfl c1012 (by decide) (by decide) rfl rfl ?_
                          refine ev_aload_n (a := 7) (b := 21) rfl rfl ?_
                          refine ev_aload_n (a := 7) (b := 22) rfl rfl ?_
                          refine ev_iload_n (a := 7) (b := 23) rfl rfl ?_
                          refine ev_iconst (a := 7) (b := 24) 1 rfl (by decide) ?_
                          refine ev_iadd (a := 7) (b := 25) rfl ?_
                          obtain ⟨h1138, h⟩ := ic_gdE h
                          refine ev_xald (a := 7) (b := 26) (ic_xin h1138) rfl ?_
                          obtain ⟨v1141, g1139, e1140, h⟩ := ic_b2E h
                          refine ev_ivI (a := 7) (b := 27) [ic_I (g.1 40 (Int32.toNatClampNeg (x3 + 1)))] rfl okX6_where rfl lmL_52 rfl (rc0) (Nat.le_of_ble_eq_true rfl) (eX6_where e1140) (Nat.le_of_ble_eq_true rfl) rfl ?_
                          refine ev_aload_n (a := 7) (b := 28) rfl rfl ?_
                          refine ev_aload_n (a := 7) (b := 29) rfl rfl ?_
                          refine ev_iload_n (a := 7) (b := 30) rfl rfl ?_
                          refine ev_iconst (a := 7) (b := 31) 1 rfl (by decide) ?_
                          refine ev_iadd (a := 8) (b := 0) rfl ?_
                          obtain ⟨h1142, h⟩ := ic_gdE h
                          refine ev_xald (a := 8) (b := 1) (ic_xin h1142) rfl ?_
                          obtain ⟨v1145, g1143, e1144, h⟩ := ic_b2E h
                          refine ev_ivI (a := 8) (b := 2) [ic_I (g1139.1 40 (Int32.toNatClampNeg (x3 + 1)))] rfl okX7_where rfl lmL_55 rfl (rc16) (Nat.le_of_ble_eq_true rfl) (eX7_where e1144) (Nat.le_of_ble_eq_true rfl) rfl ?_
                          refine ev_iceq (a := 8) (b := 3) 1379 rfl rfl (fun c1146 => ?_) (fun c1146 => ?_)
                          · have h := (if_pos c1146).symm.trans h
                            refine ev_iinc (a := 29) (b := 25) (x3 + 6) [(0, ic_R 27 0 0), (1, ic_R 0 0 0), (2, ic_R 16 0 0), (3, ic_I (x3 + 6))] rfl rfl (by first | rfl | decide) (by decide) (And.intro (Or.inr (And.intro rfl rfl)) (And.intro (Or.inr (And.intro rfl rfl)) (And.intro (Or.inr (And.intro rfl rfl)) (And.intro (Or.inl rfl) trivial)))) ?_
                            refine ev_goto (a := 29) (b := 26) 18 rfl rfl ?_
                            refine ev_fw (lv' := [(0, ic_R 27 0 0), (1, ic_R 0 0 0), (2, ic_R 16 0 0), (3, ic_I (x3 + 6))]) ?_ (And.intro rfl (And.intro rfl (And.intro rfl (And.intro rfl trivial))))
                            exact ih (x3 + 6) g1143 _ h _ _ hq
                          · have h := (if_neg c1146).symm.trans h
                            refine ev_iconst (a := 8) (b := 4) 0 rfl (by decide) ?_
                            obtain rfl := ic_s1 h
                            obtain ⟨rfl, rfl⟩ := hq
                            exact ev_ireturn (a := 8) (b := 5) rfl rfl rfl
                        · have h := (if_neg c1012).symm.trans h
                          rcases Decidable.em (((g.1 40 (Int32.toNatClampNeg x3)) &&& 63) = 10) with c1013 | c1013
                          · have h := (if_pos c1013).symm.trans h
                            refine ev_tsw1 (a := 0) (b := 21) 10 (475) 508 rfl c1013 (by decide) (by decide) rfl rfl ?_
                            refine ev_aload_n (a := 8) (b := 6) rfl rfl ?_
                            refine ev_aload_n (a := 8) (b := 7) rfl rfl ?_
                            refine ev_iload_n (a := 8) (b := 8) rfl rfl ?_
                            refine ev_iconst (a := 8) (b := 9) 1 rfl (by decide) ?_
                            refine ev_iadd (a := 8) (b := 10) rfl ?_
                            obtain ⟨h1147, h⟩ := ic_gdE h
                            refine ev_xald (a := 8) (b := 11) (ic_xin h1147) rfl ?_
                            obtain ⟨v1150, g1148, e1149, h⟩ := ic_b2E h
                            refine ev_ivI (a := 8) (b := 12) [ic_I (g.1 40 (Int32.toNatClampNeg (x3 + 1)))] rfl okX6_taken rfl lmL_56 rfl (rc0) (Nat.le_of_ble_eq_true rfl) (eX6_taken e1149) (Nat.le_of_ble_eq_true rfl) rfl ?_
                            refine ev_aload_n (a := 8) (b := 13) rfl rfl ?_
                            refine ev_aload_n (a := 8) (b := 14) rfl rfl ?_
                            refine ev_iload_n (a := 8) (b := 15) rfl rfl ?_
                            refine ev_iconst (a := 8) (b := 16) 1 rfl (by decide) ?_
                            refine ev_iadd (a := 8) (b := 17) rfl ?_
                            obtain ⟨h1151, h⟩ := ic_gdE h
                            refine ev_xald (a := 8) (b := 18) (ic_xin h1151) rfl ?_
                            obtain ⟨v1154, g1152, e1153, h⟩ := ic_b2E h
                            refine ev_ivI (a := 8) (b := 19) [ic_I (g1148.1 40 (Int32.toNatClampNeg (x3 + 1)))] rfl okX7_taken rfl lmL_59 rfl (rc16) (Nat.le_of_ble_eq_true rfl) (eX7_taken e1153) (Nat.le_of_ble_eq_true rfl) rfl ?_
                            refine ev_iceq (a := 8) (b := 20) 1379 rfl rfl (fun c1155 => ?_) (fun c1155 => ?_)
                            · have h := (if_pos c1155).symm.trans h
                              refine ev_iinc (a := 29) (b := 25) (x3 + 6) [(0, ic_R 27 0 0), (1, ic_R 0 0 0), (2, ic_R 16 0 0), (3, ic_I (x3 + 6))] rfl rfl (by first | rfl | decide) (by decide) (And.intro (Or.inr (And.intro rfl rfl)) (And.intro (Or.inr (And.intro rfl rfl)) (And.intro (Or.inr (And.intro rfl rfl)) (And.intro (Or.inl rfl) trivial)))) ?_
                              refine ev_goto (a := 29) (b := 26) 18 rfl rfl ?_
                              refine ev_fw (lv' := [(0, ic_R 27 0 0), (1, ic_R 0 0 0), (2, ic_R 16 0 0), (3, ic_I (x3 + 6))]) ?_ (And.intro rfl (And.intro rfl (And.intro rfl (And.intro rfl trivial))))
                              exact ih (x3 + 6) g1152 _ h _ _ hq
                            · have h := (if_neg c1155).symm.trans h
                              refine ev_iconst (a := 8) (b := 21) 0 rfl (by decide) ?_
                              obtain rfl := ic_s1 h
                              obtain ⟨rfl, rfl⟩ := hq
                              exact ev_ireturn (a := 8) (b := 22) rfl rfl rfl
                          · have h := (if_neg c1013).symm.trans h
                            rcases Decidable.em (((g.1 40 (Int32.toNatClampNeg x3)) &&& 63) = 11) with c1014 | c1014
                            · have h := (if_pos c1014).symm.trans h
                              refine ev_tsw1 (a := 0) (b := 21) 11 (498) 531 rfl c1014 (by decide) (by decide) rfl rfl ?_
                              refine ev_aload_n (a := 8) (b := 23) rfl rfl ?_
                              refine ev_aload_n (a := 8) (b := 24) rfl rfl ?_
                              refine ev_iload_n (a := 8) (b := 25) rfl rfl ?_
                              refine ev_iconst (a := 8) (b := 26) 1 rfl (by decide) ?_
                              refine ev_iadd (a := 8) (b := 27) rfl ?_
                              obtain ⟨h1156, h⟩ := ic_gdE h
                              refine ev_xald (a := 8) (b := 28) (ic_xin h1156) rfl ?_
                              refine ev_aload_n (a := 8) (b := 29) rfl rfl ?_
                              refine ev_iload_n (a := 8) (b := 30) rfl rfl ?_
                              refine ev_iconst (a := 8) (b := 31) 2 rfl (by decide) ?_
                              refine ev_iadd (a := 9) (b := 0) rfl ?_
                              obtain ⟨h1157, h⟩ := ic_gdE h
                              refine ev_xald (a := 9) (b := 1) (ic_xin h1157) rfl ?_
                              obtain ⟨v1160, g1158, e1159, h⟩ := ic_b2E h
                              refine ev_ivI (a := 9) (b := 2) [ic_I (g.1 40 (Int32.toNatClampNeg (x3 + 1))), ic_I (g.1 40 (Int32.toNatClampNeg (x3 + 2)))] rfl okX6_when rfl lmL_60 rfl (rc0) (Nat.le_of_ble_eq_true rfl) (eX6_when e1159) (Nat.le_of_ble_eq_true rfl) rfl ?_
                              refine ev_aload_n (a := 9) (b := 3) rfl rfl ?_
                              refine ev_aload_n (a := 9) (b := 4) rfl rfl ?_
                              refine ev_iload_n (a := 9) (b := 5) rfl rfl ?_
                              refine ev_iconst (a := 9) (b := 6) 1 rfl (by decide) ?_
                              refine ev_iadd (a := 9) (b := 7) rfl ?_
                              obtain ⟨h1161, h⟩ := ic_gdE h
                              refine ev_xald (a := 9) (b := 8) (ic_xin h1161) rfl ?_
                              refine ev_aload_n (a := 9) (b := 9) rfl rfl ?_
                              refine ev_iload_n (a := 9) (b := 10) rfl rfl ?_
                              refine ev_iconst (a := 9) (b := 11) 2 rfl (by decide) ?_
                              refine ev_iadd (a := 9) (b := 12) rfl ?_
                              obtain ⟨h1162, h⟩ := ic_gdE h
                              refine ev_xald (a := 9) (b := 13) (ic_xin h1162) rfl ?_
                              obtain ⟨v1165, g1163, e1164, h⟩ := ic_b2E h
                              refine ev_ivI (a := 9) (b := 14) [ic_I (g1158.1 40 (Int32.toNatClampNeg (x3 + 1))), ic_I (g1158.1 40 (Int32.toNatClampNeg (x3 + 2)))] rfl okX7_when rfl lmL_63 rfl (rc16) (Nat.le_of_ble_eq_true rfl) (eX7_when e1164) (Nat.le_of_ble_eq_true rfl) rfl ?_
                              refine ev_iceq (a := 9) (b := 15) 1379 rfl rfl (fun c1166 => ?_) (fun c1166 => ?_)
                              · have h := (if_pos c1166).symm.trans h
                                refine ev_iinc (a := 29) (b := 25) (x3 + 6) [(0, ic_R 27 0 0), (1, ic_R 0 0 0), (2, ic_R 16 0 0), (3, ic_I (x3 + 6))] rfl rfl (by first | rfl | decide) (by decide) (And.intro (Or.inr (And.intro rfl rfl)) (And.intro (Or.inr (And.intro rfl rfl)) (And.intro (Or.inr (And.intro rfl rfl)) (And.intro (Or.inl rfl) trivial)))) ?_
                                refine ev_goto (a := 29) (b := 26) 18 rfl rfl ?_
                                refine ev_fw (lv' := [(0, ic_R 27 0 0), (1, ic_R 0 0 0), (2, ic_R 16 0 0), (3, ic_I (x3 + 6))]) ?_ (And.intro rfl (And.intro rfl (And.intro rfl (And.intro rfl trivial))))
                                exact ih (x3 + 6) g1163 _ h _ _ hq
                              · have h := (if_neg c1166).symm.trans h
                                refine ev_iconst (a := 9) (b := 16) 0 rfl (by decide) ?_
                                obtain rfl := ic_s1 h
                                obtain ⟨rfl, rfl⟩ := hq
                                exact ev_ireturn (a := 9) (b := 17) rfl rfl rfl
                            · have h := (if_neg c1014).symm.trans h
                              rcases Decidable.em (((g.1 40 (Int32.toNatClampNeg x3)) &&& 63) = 12) with c1015 | c1015
                              · have h := (if_pos c1015).symm.trans h
                                refine ev_tsw1 (a := 0) (b := 21) 12 (531) 564 rfl c1015 (by decide) (by decide) rfl rfl ?_
                                refine ev_aload_n (a := 9) (b := 18) rfl rfl ?_
                                refine ev_aload_n (a := 9) (b := 19) rfl rfl ?_
                                refine ev_iload_n (a := 9) (b := 20) rfl rfl ?_
                                refine ev_iconst (a := 9) (b := 21) 1 rfl (by decide) ?_
                                refine ev_iadd (a := 9) (b := 22) rfl ?_
                                obtain ⟨h1167, h⟩ := ic_gdE h
                                refine ev_xald (a := 9) (b := 23) (ic_xin h1167) rfl ?_
                                refine ev_aload_n (a := 9) (b := 24) rfl rfl ?_
                                refine ev_iload_n (a := 9) (b := 25) rfl rfl ?_
                                refine ev_iconst (a := 9) (b := 26) 2 rfl (by decide) ?_
                                refine ev_iadd (a := 9) (b := 27) rfl ?_
                                obtain ⟨h1168, h⟩ := ic_gdE h
                                refine ev_xald (a := 9) (b := 28) (ic_xin h1168) rfl ?_
                                obtain ⟨v1171, g1169, e1170, h⟩ := ic_b2E h
                                refine ev_ivI (a := 9) (b := 29) [ic_I (g.1 40 (Int32.toNatClampNeg (x3 + 1))), ic_I (g.1 40 (Int32.toNatClampNeg (x3 + 2)))] rfl okX6_meet rfl lmL_64 rfl (rc0) (Nat.le_of_ble_eq_true rfl) (eX6_meet e1170) (Nat.le_of_ble_eq_true rfl) rfl ?_
                                refine ev_aload_n (a := 9) (b := 30) rfl rfl ?_
                                refine ev_aload_n (a := 9) (b := 31) rfl rfl ?_
                                refine ev_iload_n (a := 10) (b := 0) rfl rfl ?_
                                refine ev_iconst (a := 10) (b := 1) 1 rfl (by decide) ?_
                                refine ev_iadd (a := 10) (b := 2) rfl ?_
                                obtain ⟨h1172, h⟩ := ic_gdE h
                                refine ev_xald (a := 10) (b := 3) (ic_xin h1172) rfl ?_
                                refine ev_aload_n (a := 10) (b := 4) rfl rfl ?_
                                refine ev_iload_n (a := 10) (b := 5) rfl rfl ?_
                                refine ev_iconst (a := 10) (b := 6) 2 rfl (by decide) ?_
                                refine ev_iadd (a := 10) (b := 7) rfl ?_
                                obtain ⟨h1173, h⟩ := ic_gdE h
                                refine ev_xald (a := 10) (b := 8) (ic_xin h1173) rfl ?_
                                obtain ⟨v1176, g1174, e1175, h⟩ := ic_b2E h
                                refine ev_ivI (a := 10) (b := 9) [ic_I (g1169.1 40 (Int32.toNatClampNeg (x3 + 1))), ic_I (g1169.1 40 (Int32.toNatClampNeg (x3 + 2)))] rfl okX7_meet rfl lmL_67 rfl (rc16) (Nat.le_of_ble_eq_true rfl) (eX7_meet e1175) (Nat.le_of_ble_eq_true rfl) rfl ?_
                                refine ev_iceq (a := 10) (b := 10) 1379 rfl rfl (fun c1177 => ?_) (fun c1177 => ?_)
                                · have h := (if_pos c1177).symm.trans h
                                  refine ev_iinc (a := 29) (b := 25) (x3 + 6) [(0, ic_R 27 0 0), (1, ic_R 0 0 0), (2, ic_R 16 0 0), (3, ic_I (x3 + 6))] rfl rfl (by first | rfl | decide) (by decide) (And.intro (Or.inr (And.intro rfl rfl)) (And.intro (Or.inr (And.intro rfl rfl)) (And.intro (Or.inr (And.intro rfl rfl)) (And.intro (Or.inl rfl) trivial)))) ?_
                                  refine ev_goto (a := 29) (b := 26) 18 rfl rfl ?_
                                  refine ev_fw (lv' := [(0, ic_R 27 0 0), (1, ic_R 0 0 0), (2, ic_R 16 0 0), (3, ic_I (x3 + 6))]) ?_ (And.intro rfl (And.intro rfl (And.intro rfl (And.intro rfl trivial))))
                                  exact ih (x3 + 6) g1174 _ h _ _ hq
                                · have h := (if_neg c1177).symm.trans h
                                  refine ev_iconst (a := 10) (b := 11) 0 rfl (by decide) ?_
                                  obtain rfl := ic_s1 h
                                  obtain ⟨rfl, rfl⟩ := hq
                                  exact ev_ireturn (a := 10) (b := 12) rfl rfl rfl
                              · have h := (if_neg c1015).symm.trans h
                                rcases Decidable.em (((g.1 40 (Int32.toNatClampNeg x3)) &&& 63) = 13) with c1016 | c1016
                                · have h := (if_pos c1016).symm.trans h
                                  refine ev_tsw1 (a := 0) (b := 21) 13 (564) 597 rfl c1016 (by decide) (by decide) rfl rfl ?_
                                  refine ev_aload_n (a := 10) (b := 13) rfl rfl ?_
                                  refine ev_aload_n (a := 10) (b := 14) rfl rfl ?_
                                  refine ev_iload_n (a := 10) (b := 15) rfl rfl ?_
                                  refine ev_iconst (a := 10) (b := 16) 1 rfl (by decide) ?_
                                  refine ev_iadd (a := 10) (b := 17) rfl ?_
                                  obtain ⟨h1178, h⟩ := ic_gdE h
                                  refine ev_xald (a := 10) (b := 18) (ic_xin h1178) rfl ?_
                                  refine ev_aload_n (a := 10) (b := 19) rfl rfl ?_
                                  refine ev_iload_n (a := 10) (b := 20) rfl rfl ?_
                                  refine ev_iconst (a := 10) (b := 21) 2 rfl (by decide) ?_
                                  refine ev_iadd (a := 10) (b := 22) rfl ?_
                                  obtain ⟨h1179, h⟩ := ic_gdE h
                                  refine ev_xald (a := 10) (b := 23) (ic_xin h1179) rfl ?_
                                  obtain ⟨v1182, g1180, e1181, h⟩ := ic_b2E h
                                  refine ev_ivI (a := 10) (b := 24) [ic_I (g.1 40 (Int32.toNatClampNeg (x3 + 1))), ic_I (g.1 40 (Int32.toNatClampNeg (x3 + 2)))] rfl okX6_strained rfl lmL_68 rfl (rc0) (Nat.le_of_ble_eq_true rfl) (eX6_strained e1181) (Nat.le_of_ble_eq_true rfl) rfl ?_
                                  refine ev_aload_n (a := 10) (b := 25) rfl rfl ?_
                                  refine ev_aload_n (a := 10) (b := 26) rfl rfl ?_
                                  refine ev_iload_n (a := 10) (b := 27) rfl rfl ?_
                                  refine ev_iconst (a := 10) (b := 28) 1 rfl (by decide) ?_
                                  refine ev_iadd (a := 10) (b := 29) rfl ?_
                                  obtain ⟨h1183, h⟩ := ic_gdE h
                                  refine ev_xald (a := 10) (b := 30) (ic_xin h1183) rfl ?_
                                  refine ev_aload_n (a := 10) (b := 31) rfl rfl ?_
                                  refine ev_iload_n (a := 11) (b := 0) rfl rfl ?_
                                  refine ev_iconst (a := 11) (b := 1) 2 rfl (by decide) ?_
                                  refine ev_iadd (a := 11) (b := 2) rfl ?_
                                  obtain ⟨h1184, h⟩ := ic_gdE h
                                  refine ev_xald (a := 11) (b := 3) (ic_xin h1184) rfl ?_
                                  obtain ⟨v1187, g1185, e1186, h⟩ := ic_b2E h
                                  refine ev_ivI (a := 11) (b := 4) [ic_I (g1180.1 40 (Int32.toNatClampNeg (x3 + 1))), ic_I (g1180.1 40 (Int32.toNatClampNeg (x3 + 2)))] rfl okX7_strained rfl lmL_71 rfl (rc16) (Nat.le_of_ble_eq_true rfl) (eX7_strained e1186) (Nat.le_of_ble_eq_true rfl) rfl ?_
                                  refine ev_iceq (a := 11) (b := 5) 1379 rfl rfl (fun c1188 => ?_) (fun c1188 => ?_)
                                  · have h := (if_pos c1188).symm.trans h
                                    refine ev_iinc (a := 29) (b := 25) (x3 + 6) [(0, ic_R 27 0 0), (1, ic_R 0 0 0), (2, ic_R 16 0 0), (3, ic_I (x3 + 6))] rfl rfl (by first | rfl | decide) (by decide) (And.intro (Or.inr (And.intro rfl rfl)) (And.intro (Or.inr (And.intro rfl rfl)) (And.intro (Or.inr (And.intro rfl rfl)) (And.intro (Or.inl rfl) trivial)))) ?_
                                    refine ev_goto (a := 29) (b := 26) 18 rfl rfl ?_
                                    refine ev_fw (lv' := [(0, ic_R 27 0 0), (1, ic_R 0 0 0), (2, ic_R 16 0 0), (3, ic_I (x3 + 6))]) ?_ (And.intro rfl (And.intro rfl (And.intro rfl (And.intro rfl trivial))))
                                    exact ih (x3 + 6) g1185 _ h _ _ hq
                                  · have h := (if_neg c1188).symm.trans h
                                    refine ev_iconst (a := 11) (b := 6) 0 rfl (by decide) ?_
                                    obtain rfl := ic_s1 h
                                    obtain ⟨rfl, rfl⟩ := hq
                                    exact ev_ireturn (a := 11) (b := 7) rfl rfl rfl
                                · have h := (if_neg c1016).symm.trans h
                                  rcases Decidable.em (((g.1 40 (Int32.toNatClampNeg x3)) &&& 63) = 14) with c1017 | c1017
                                  · have h := (if_pos c1017).symm.trans h
                                    refine ev_tsw1 (a := 0) (b := 21) 14 (597) 630 rfl c1017 (by decide) (by decide) rfl rfl ?_
                                    refine ev_aload_n (a := 11) (b := 8) rfl rfl ?_
                                    refine ev_aload_n (a := 11) (b := 9) rfl rfl ?_
                                    refine ev_iload_n (a := 11) (b := 10) rfl rfl ?_
                                    refine ev_iconst (a := 11) (b := 11) 1 rfl (by decide) ?_
                                    refine ev_iadd (a := 11) (b := 12) rfl ?_
                                    obtain ⟨h1189, h⟩ := ic_gdE h
                                    refine ev_xald (a := 11) (b := 13) (ic_xin h1189) rfl ?_
                                    refine ev_aload_n (a := 11) (b := 14) rfl rfl ?_
                                    refine ev_iload_n (a := 11) (b := 15) rfl rfl ?_
                                    refine ev_iconst (a := 11) (b := 16) 2 rfl (by decide) ?_
                                    refine ev_iadd (a := 11) (b := 17) rfl ?_
                                    obtain ⟨h1190, h⟩ := ic_gdE h
                                    refine ev_xald (a := 11) (b := 18) (ic_xin h1190) rfl ?_
                                    obtain ⟨v1193, g1191, e1192, h⟩ := ic_b2E h
                                    refine ev_ivI (a := 11) (b := 19) [ic_I (g.1 40 (Int32.toNatClampNeg (x3 + 1))), ic_I (g.1 40 (Int32.toNatClampNeg (x3 + 2)))] rfl okX6_loudFor rfl lmL_72 rfl (rc0) (Nat.le_of_ble_eq_true rfl) (eX6_loudFor e1192) (Nat.le_of_ble_eq_true rfl) rfl ?_
                                    refine ev_aload_n (a := 11) (b := 20) rfl rfl ?_
                                    refine ev_aload_n (a := 11) (b := 21) rfl rfl ?_
                                    refine ev_iload_n (a := 11) (b := 22) rfl rfl ?_
                                    refine ev_iconst (a := 11) (b := 23) 1 rfl (by decide) ?_
                                    refine ev_iadd (a := 11) (b := 24) rfl ?_
                                    obtain ⟨h1194, h⟩ := ic_gdE h
                                    refine ev_xald (a := 11) (b := 25) (ic_xin h1194) rfl ?_
                                    refine ev_aload_n (a := 11) (b := 26) rfl rfl ?_
                                    refine ev_iload_n (a := 11) (b := 27) rfl rfl ?_
                                    refine ev_iconst (a := 11) (b := 28) 2 rfl (by decide) ?_
                                    refine ev_iadd (a := 11) (b := 29) rfl ?_
                                    obtain ⟨h1195, h⟩ := ic_gdE h
                                    refine ev_xald (a := 11) (b := 30) (ic_xin h1195) rfl ?_
                                    obtain ⟨v1198, g1196, e1197, h⟩ := ic_b2E h
                                    refine ev_ivI (a := 11) (b := 31) [ic_I (g1191.1 40 (Int32.toNatClampNeg (x3 + 1))), ic_I (g1191.1 40 (Int32.toNatClampNeg (x3 + 2)))] rfl okX7_loudFor rfl lmL_75 rfl (rc16) (Nat.le_of_ble_eq_true rfl) (eX7_loudFor e1197) (Nat.le_of_ble_eq_true rfl) rfl ?_
                                    refine ev_iceq (a := 12) (b := 0) 1379 rfl rfl (fun c1199 => ?_) (fun c1199 => ?_)
                                    · have h := (if_pos c1199).symm.trans h
                                      refine ev_iinc (a := 29) (b := 25) (x3 + 6) [(0, ic_R 27 0 0), (1, ic_R 0 0 0), (2, ic_R 16 0 0), (3, ic_I (x3 + 6))] rfl rfl (by first | rfl | decide) (by decide) (And.intro (Or.inr (And.intro rfl rfl)) (And.intro (Or.inr (And.intro rfl rfl)) (And.intro (Or.inr (And.intro rfl rfl)) (And.intro (Or.inl rfl) trivial)))) ?_
                                      refine ev_goto (a := 29) (b := 26) 18 rfl rfl ?_
                                      refine ev_fw (lv' := [(0, ic_R 27 0 0), (1, ic_R 0 0 0), (2, ic_R 16 0 0), (3, ic_I (x3 + 6))]) ?_ (And.intro rfl (And.intro rfl (And.intro rfl (And.intro rfl trivial))))
                                      exact ih (x3 + 6) g1196 _ h _ _ hq
                                    · have h := (if_neg c1199).symm.trans h
                                      refine ev_iconst (a := 12) (b := 1) 0 rfl (by decide) ?_
                                      obtain rfl := ic_s1 h
                                      obtain ⟨rfl, rfl⟩ := hq
                                      exact ev_ireturn (a := 12) (b := 2) rfl rfl rfl
                                  · have h := (if_neg c1017).symm.trans h
                                    rcases Decidable.em (((g.1 40 (Int32.toNatClampNeg x3)) &&& 63) = 15) with c1018 | c1018
                                    · have h := (if_pos c1018).symm.trans h
                                      refine ev_tsw1 (a := 0) (b := 21) 15 (630) 663 rfl c1018 (by decide) (by decide) rfl rfl ?_
                                      refine ev_aload_n (a := 12) (b := 3) rfl rfl ?_
                                      refine ev_aload_n (a := 12) (b := 4) rfl rfl ?_
                                      refine ev_iload_n (a := 12) (b := 5) rfl rfl ?_
                                      refine ev_iconst (a := 12) (b := 6) 1 rfl (by decide) ?_
                                      refine ev_iadd (a := 12) (b := 7) rfl ?_
                                      obtain ⟨h1200, h⟩ := ic_gdE h
                                      refine ev_xald (a := 12) (b := 8) (ic_xin h1200) rfl ?_
                                      obtain ⟨v1203, g1201, e1202, h⟩ := ic_b2E h
                                      refine ev_ivI (a := 12) (b := 9) [ic_I (g.1 40 (Int32.toNatClampNeg (x3 + 1)))] rfl okX6_startFor rfl lmL_76 rfl (rc0) (Nat.le_of_ble_eq_true rfl) (eX6_startFor e1202) (Nat.le_of_ble_eq_true rfl) rfl ?_
                                      refine ev_aload_n (a := 12) (b := 10) rfl rfl ?_
                                      refine ev_aload_n (a := 12) (b := 11) rfl rfl ?_
                                      refine ev_iload_n (a := 12) (b := 12) rfl rfl ?_
                                      refine ev_iconst (a := 12) (b := 13) 1 rfl (by decide) ?_
                                      refine ev_iadd (a := 12) (b := 14) rfl ?_
                                      obtain ⟨h1204, h⟩ := ic_gdE h
                                      refine ev_xald (a := 12) (b := 15) (ic_xin h1204) rfl ?_
                                      obtain ⟨v1207, g1205, e1206, h⟩ := ic_b2E h
                                      refine ev_ivI (a := 12) (b := 16) [ic_I (g1201.1 40 (Int32.toNatClampNeg (x3 + 1)))] rfl okX7_startFor rfl lmL_79 rfl (rc16) (Nat.le_of_ble_eq_true rfl) (eX7_startFor e1206) (Nat.le_of_ble_eq_true rfl) rfl ?_
                                      refine ev_iceq (a := 12) (b := 17) 1379 rfl rfl (fun c1208 => ?_) (fun c1208 => ?_)
                                      · have h := (if_pos c1208).symm.trans h
                                        refine ev_iinc (a := 29) (b := 25) (x3 + 6) [(0, ic_R 27 0 0), (1, ic_R 0 0 0), (2, ic_R 16 0 0), (3, ic_I (x3 + 6))] rfl rfl (by first | rfl | decide) (by decide) (And.intro (Or.inr (And.intro rfl rfl)) (And.intro (Or.inr (And.intro rfl rfl)) (And.intro (Or.inr (And.intro rfl rfl)) (And.intro (Or.inl rfl) trivial)))) ?_
                                        refine ev_goto (a := 29) (b := 26) 18 rfl rfl ?_
                                        refine ev_fw (lv' := [(0, ic_R 27 0 0), (1, ic_R 0 0 0), (2, ic_R 16 0 0), (3, ic_I (x3 + 6))]) ?_ (And.intro rfl (And.intro rfl (And.intro rfl (And.intro rfl trivial))))
                                        exact ih (x3 + 6) g1205 _ h _ _ hq
                                      · have h := (if_neg c1208).symm.trans h
                                        refine ev_iconst (a := 12) (b := 18) 0 rfl (by decide) ?_
                                        obtain rfl := ic_s1 h
                                        obtain ⟨rfl, rfl⟩ := hq
                                        exact ev_ireturn (a := 12) (b := 19) rfl rfl rfl
                                    · have h := (if_neg c1018).symm.trans h
                                      rcases Decidable.em (((g.1 40 (Int32.toNatClampNeg x3)) &&& 63) = 16) with c1019 | c1019
                                      · have h := (if_pos c1019).symm.trans h
                                        refine ev_tsw1 (a := 0) (b := 21) 16 (653) 686 rfl c1019 (by decide) (by decide) rfl rfl ?_
                                        refine ev_aload_n (a := 12) (b := 20) rfl rfl ?_
                                        refine ev_aload_n (a := 12) (b := 21) rfl rfl ?_
                                        refine ev_iload_n (a := 12) (b := 22) rfl rfl ?_
                                        refine ev_iconst (a := 12) (b := 23) 1 rfl (by decide) ?_
                                        refine ev_iadd (a := 12) (b := 24) rfl ?_
                                        obtain ⟨h1209, h⟩ := ic_gdE h
                                        refine ev_xald (a := 12) (b := 25) (ic_xin h1209) rfl ?_
                                        refine ev_aload_n (a := 12) (b := 26) rfl rfl ?_
                                        refine ev_iload_n (a := 12) (b := 27) rfl rfl ?_
                                        refine ev_iconst (a := 12) (b := 28) 2 rfl (by decide) ?_
                                        refine ev_iadd (a := 12) (b := 29) rfl ?_
                                        obtain ⟨h1210, h⟩ := ic_gdE h
                                        refine ev_xald (a := 12) (b := 30) (ic_xin h1210) rfl ?_
                                        obtain ⟨v1213, g1211, e1212, h⟩ := ic_b2E h
                                        refine ev_ivI (a := 12) (b := 31) [ic_I (g.1 40 (Int32.toNatClampNeg (x3 + 1))), ic_I (g.1 40 (Int32.toNatClampNeg (x3 + 2)))] rfl okX6_layFor rfl lmL_80 rfl (rc0) (Nat.le_of_ble_eq_true rfl) (eX6_layFor e1212) (Nat.le_of_ble_eq_true rfl) rfl ?_
                                        refine ev_aload_n (a := 13) (b := 0) rfl rfl ?_
                                        refine ev_aload_n (a := 13) (b := 1) rfl rfl ?_
                                        refine ev_iload_n (a := 13) (b := 2) rfl rfl ?_
                                        refine ev_iconst (a := 13) (b := 3) 1 rfl (by decide) ?_
                                        refine ev_iadd (a := 13) (b := 4) rfl ?_
                                        obtain ⟨h1214, h⟩ := ic_gdE h
                                        refine ev_xald (a := 13) (b := 5) (ic_xin h1214) rfl ?_
                                        refine ev_aload_n (a := 13) (b := 6) rfl rfl ?_
                                        refine ev_iload_n (a := 13) (b := 7) rfl rfl ?_
                                        refine ev_iconst (a := 13) (b := 8) 2 rfl (by decide) ?_
                                        refine ev_iadd (a := 13) (b := 9) rfl ?_
                                        obtain ⟨h1215, h⟩ := ic_gdE h
                                        refine ev_xald (a := 13) (b := 10) (ic_xin h1215) rfl ?_
                                        obtain ⟨v1218, g1216, e1217, h⟩ := ic_b2E h
                                        refine ev_ivI (a := 13) (b := 11) [ic_I (g1211.1 40 (Int32.toNatClampNeg (x3 + 1))), ic_I (g1211.1 40 (Int32.toNatClampNeg (x3 + 2)))] rfl okX7_layFor rfl lmL_83 rfl (rc16) (Nat.le_of_ble_eq_true rfl) (eX7_layFor e1217) (Nat.le_of_ble_eq_true rfl) rfl ?_
                                        refine ev_iceq (a := 13) (b := 12) 1379 rfl rfl (fun c1219 => ?_) (fun c1219 => ?_)
                                        · have h := (if_pos c1219).symm.trans h
                                          refine ev_iinc (a := 29) (b := 25) (x3 + 6) [(0, ic_R 27 0 0), (1, ic_R 0 0 0), (2, ic_R 16 0 0), (3, ic_I (x3 + 6))] rfl rfl (by first | rfl | decide) (by decide) (And.intro (Or.inr (And.intro rfl rfl)) (And.intro (Or.inr (And.intro rfl rfl)) (And.intro (Or.inr (And.intro rfl rfl)) (And.intro (Or.inl rfl) trivial)))) ?_
                                          refine ev_goto (a := 29) (b := 26) 18 rfl rfl ?_
                                          refine ev_fw (lv' := [(0, ic_R 27 0 0), (1, ic_R 0 0 0), (2, ic_R 16 0 0), (3, ic_I (x3 + 6))]) ?_ (And.intro rfl (And.intro rfl (And.intro rfl (And.intro rfl trivial))))
                                          exact ih (x3 + 6) g1216 _ h _ _ hq
                                        · have h := (if_neg c1219).symm.trans h
                                          refine ev_iconst (a := 13) (b := 13) 0 rfl (by decide) ?_
                                          obtain rfl := ic_s1 h
                                          obtain ⟨rfl, rfl⟩ := hq
                                          exact ev_ireturn (a := 13) (b := 14) rfl rfl rfl
                                      · have h := (if_neg c1019).symm.trans h
                                        rcases Decidable.em (((g.1 40 (Int32.toNatClampNeg x3)) &&& 63) = 17) with c1020 | c1020
                                        · have h := (if_pos c1020).symm.trans h
                                          refine ev_tsw1 (a := 0) (b := 21) 17 (686) 719 rfl c1020 (by decide) (by decide) rfl rfl ?_
                                          refine ev_aload_n (a := 13) (b := 15) rfl rfl ?_
                                          refine ev_aload_n (a := 13) (b := 16) rfl rfl ?_
                                          refine ev_iload_n (a := 13) (b := 17) rfl rfl ?_
                                          refine ev_iconst (a := 13) (b := 18) 1 rfl (by decide) ?_
                                          refine ev_iadd (a := 13) (b := 19) rfl ?_
                                          obtain ⟨h1220, h⟩ := ic_gdE h
                                          refine ev_xald (a := 13) (b := 20) (ic_xin h1220) rfl ?_
                                          refine ev_aload_n (a := 13) (b := 21) rfl rfl ?_
                                          refine ev_iload_n (a := 13) (b := 22) rfl rfl ?_
                                          refine ev_iconst (a := 13) (b := 23) 2 rfl (by decide) ?_
                                          refine ev_iadd (a := 13) (b := 24) rfl ?_
                                          obtain ⟨h1221, h⟩ := ic_gdE h
                                          refine ev_xald (a := 13) (b := 25) (ic_xin h1221) rfl ?_
                                          obtain ⟨v1224, g1222, e1223, h⟩ := ic_b2E h
                                          refine ev_ivI (a := 13) (b := 26) [ic_I (g.1 40 (Int32.toNatClampNeg (x3 + 1))), ic_I (g.1 40 (Int32.toNatClampNeg (x3 + 2)))] rfl okX6_kindFor rfl lmL_84 rfl (rc0) (Nat.le_of_ble_eq_true rfl) (eX6_kindFor e1223) (Nat.le_of_ble_eq_true rfl) rfl ?_
                                          refine ev_aload_n (a := 13) (b := 27) rfl rfl ?_
                                          refine ev_aload_n (a := 13) (b := 28) rfl rfl ?_
                                          refine ev_iload_n (a := 13) (b := 29) rfl rfl ?_
                                          refine ev_iconst (a := 13) (b := 30) 1 rfl (by decide) ?_
                                          refine ev_iadd (a := 13) (b := 31) rfl ?_
                                          obtain ⟨h1225, h⟩ := ic_gdE h
                                          refine ev_xald (a := 14) (b := 0) (ic_xin h1225) rfl ?_
                                          refine ev_aload_n (a := 14) (b := 1) rfl rfl ?_
                                          refine ev_iload_n (a := 14) (b := 2) rfl rfl ?_
                                          refine ev_iconst (a := 14) (b := 3) 2 rfl (by decide) ?_
                                          refine ev_iadd (a := 14) (b := 4) rfl ?_
                                          obtain ⟨h1226, h⟩ := ic_gdE h
                                          refine ev_xald (a := 14) (b := 5) (ic_xin h1226) rfl ?_
                                          obtain ⟨v1229, g1227, e1228, h⟩ := ic_b2E h
                                          refine ev_ivI (a := 14) (b := 6) [ic_I (g1222.1 40 (Int32.toNatClampNeg (x3 + 1))), ic_I (g1222.1 40 (Int32.toNatClampNeg (x3 + 2)))] rfl okX7_kindFor rfl lmL_87 rfl (rc16) (Nat.le_of_ble_eq_true rfl) (eX7_kindFor e1228) (Nat.le_of_ble_eq_true rfl) rfl ?_
                                          refine ev_iceq (a := 14) (b := 7) 1379 rfl rfl (fun c1230 => ?_) (fun c1230 => ?_)
                                          · have h := (if_pos c1230).symm.trans h
                                            refine ev_iinc (a := 29) (b := 25) (x3 + 6) [(0, ic_R 27 0 0), (1, ic_R 0 0 0), (2, ic_R 16 0 0), (3, ic_I (x3 + 6))] rfl rfl (by first | rfl | decide) (by decide) (And.intro (Or.inr (And.intro rfl rfl)) (And.intro (Or.inr (And.intro rfl rfl)) (And.intro (Or.inr (And.intro rfl rfl)) (And.intro (Or.inl rfl) trivial)))) ?_
                                            refine ev_goto (a := 29) (b := 26) 18 rfl rfl ?_
                                            refine ev_fw (lv' := [(0, ic_R 27 0 0), (1, ic_R 0 0 0), (2, ic_R 16 0 0), (3, ic_I (x3 + 6))]) ?_ (And.intro rfl (And.intro rfl (And.intro rfl (And.intro rfl trivial))))
                                            exact ih (x3 + 6) g1227 _ h _ _ hq
                                          · have h := (if_neg c1230).symm.trans h
                                            refine ev_iconst (a := 14) (b := 8) 0 rfl (by decide) ?_
                                            obtain rfl := ic_s1 h
                                            obtain ⟨rfl, rfl⟩ := hq
                                            exact ev_ireturn (a := 14) (b := 9) rfl rfl rfl
                                        · have h := (if_neg c1020).symm.trans h
                                          rcases Decidable.em (((g.1 40 (Int32.toNatClampNeg x3)) &&& 63) = 18) with c1021 | c1021
                                          · have h := (if_pos c1021).symm.trans h
                                            refine ev_tsw1 (a := 0) (b := 21) 18 (719) 752 rfl c1021 (by decide) (by decide) rfl rfl ?_
                                            refine ev_aload_n (a := 14) (b := 10) rfl rfl ?_
                                            refine ev_aload_n (a := 14) (b := 11) rfl rfl ?_
                                            refine ev_iload_n (a := 14) (b := 12) rfl rfl ?_
                                            refine ev_iconst (a := 14) (b := 13) 1 rfl (by decide) ?_
                                            refine ev_iadd (a := 14) (b := 14) rfl ?_
                                            obtain ⟨h1231, h⟩ := ic_gdE h
                                            refine ev_xald (a := 14) (b := 15) (ic_xin h1231) rfl ?_
                                            refine ev_aload_n (a := 14) (b := 16) rfl rfl ?_
                                            refine ev_iload_n (a := 14) (b := 17) rfl rfl ?_
                                            refine ev_iconst (a := 14) (b := 18) 2 rfl (by decide) ?_
                                            refine ev_iadd (a := 14) (b := 19) rfl ?_
                                            obtain ⟨h1232, h⟩ := ic_gdE h
                                            refine ev_xald (a := 14) (b := 20) (ic_xin h1232) rfl ?_
                                            obtain ⟨v1235, g1233, e1234, h⟩ := ic_b2E h
                                            refine ev_ivI (a := 14) (b := 21) [ic_I (g.1 40 (Int32.toNatClampNeg (x3 + 1))), ic_I (g.1 40 (Int32.toNatClampNeg (x3 + 2)))] rfl okX6_heavyFor rfl lmL_88 rfl (rc0) (Nat.le_of_ble_eq_true rfl) (eX6_heavyFor e1234) (Nat.le_of_ble_eq_true rfl) rfl ?_
                                            refine ev_aload_n (a := 14) (b := 22) rfl rfl ?_
                                            refine ev_aload_n (a := 14) (b := 23) rfl rfl ?_
                                            refine ev_iload_n (a := 14) (b := 24) rfl rfl ?_
                                            refine ev_iconst (a := 14) (b := 25) 1 rfl (by decide) ?_
                                            refine ev_iadd (a := 14) (b := 26) rfl ?_
                                            obtain ⟨h1236, h⟩ := ic_gdE h
                                            refine ev_xald (a := 14) (b := 27) (ic_xin h1236) rfl ?_
                                            refine ev_aload_n (a := 14) (b := 28) rfl rfl ?_
                                            refine ev_iload_n (a := 14) (b := 29) rfl rfl ?_
                                            refine ev_iconst (a := 14) (b := 30) 2 rfl (by decide) ?_
                                            refine ev_iadd (a := 14) (b := 31) rfl ?_
                                            obtain ⟨h1237, h⟩ := ic_gdE h
                                            refine ev_xald (a := 15) (b := 0) (ic_xin h1237) rfl ?_
                                            obtain ⟨v1240, g1238, e1239, h⟩ := ic_b2E h
                                            refine ev_ivI (a := 15) (b := 1) [ic_I (g1233.1 40 (Int32.toNatClampNeg (x3 + 1))), ic_I (g1233.1 40 (Int32.toNatClampNeg (x3 + 2)))] rfl okX7_heavyFor rfl lmL_91 rfl (rc16) (Nat.le_of_ble_eq_true rfl) (eX7_heavyFor e1239) (Nat.le_of_ble_eq_true rfl) rfl ?_
                                            refine ev_iceq (a := 15) (b := 2) 1379 rfl rfl (fun c1241 => ?_) (fun c1241 => ?_)
                                            · have h := (if_pos c1241).symm.trans h
                                              refine ev_iinc (a := 29) (b := 25) (x3 + 6) [(0, ic_R 27 0 0), (1, ic_R 0 0 0), (2, ic_R 16 0 0), (3, ic_I (x3 + 6))] rfl rfl (by first | rfl | decide) (by decide) (And.intro (Or.inr (And.intro rfl rfl)) (And.intro (Or.inr (And.intro rfl rfl)) (And.intro (Or.inr (And.intro rfl rfl)) (And.intro (Or.inl rfl) trivial)))) ?_
                                              refine ev_goto (a := 29) (b := 26) 18 rfl rfl ?_
                                              refine ev_fw (lv' := [(0, ic_R 27 0 0), (1, ic_R 0 0 0), (2, ic_R 16 0 0), (3, ic_I (x3 + 6))]) ?_ (And.intro rfl (And.intro rfl (And.intro rfl (And.intro rfl trivial))))
                                              exact ih (x3 + 6) g1238 _ h _ _ hq
                                            · have h := (if_neg c1241).symm.trans h
                                              refine ev_iconst (a := 15) (b := 3) 0 rfl (by decide) ?_
                                              obtain rfl := ic_s1 h
                                              obtain ⟨rfl, rfl⟩ := hq
                                              exact ev_ireturn (a := 15) (b := 4) rfl rfl rfl
                                          · have h := (if_neg c1021).symm.trans h
                                            rcases Decidable.em (((g.1 40 (Int32.toNatClampNeg x3)) &&& 63) = 19) with c1022 | c1022
                                            · have h := (if_pos c1022).symm.trans h
                                              refine ev_tsw1 (a := 0) (b := 21) 19 (752) 785 rfl c1022 (by decide) (by decide) rfl rfl ?_
                                              refine ev_aload_n (a := 15) (b := 5) rfl rfl ?_
                                              refine ev_aload_n (a := 15) (b := 6) rfl rfl ?_
                                              refine ev_iload_n (a := 15) (b := 7) rfl rfl ?_
                                              refine ev_iconst (a := 15) (b := 8) 1 rfl (by decide) ?_
                                              refine ev_iadd (a := 15) (b := 9) rfl ?_
                                              obtain ⟨h1242, h⟩ := ic_gdE h
                                              refine ev_xald (a := 15) (b := 10) (ic_xin h1242) rfl ?_
                                              obtain ⟨v1245, g1243, e1244, h⟩ := ic_b2E h
                                              refine ev_ivI (a := 15) (b := 11) [ic_I (g.1 40 (Int32.toNatClampNeg (x3 + 1)))] rfl okX6_holdFast rfl lmL_92 rfl (rc0) (Nat.le_of_ble_eq_true rfl) (eX6_holdFast e1244) (Nat.le_of_ble_eq_true rfl) rfl ?_
                                              refine ev_aload_n (a := 15) (b := 12) rfl rfl ?_
                                              refine ev_aload_n (a := 15) (b := 13) rfl rfl ?_
                                              refine ev_iload_n (a := 15) (b := 14) rfl rfl ?_
                                              refine ev_iconst (a := 15) (b := 15) 1 rfl (by decide) ?_
                                              refine ev_iadd (a := 15) (b := 16) rfl ?_
                                              obtain ⟨h1246, h⟩ := ic_gdE h
                                              refine ev_xald (a := 15) (b := 17) (ic_xin h1246) rfl ?_
                                              obtain ⟨v1249, g1247, e1248, h⟩ := ic_b2E h
                                              refine ev_ivI (a := 15) (b := 18) [ic_I (g1243.1 40 (Int32.toNatClampNeg (x3 + 1)))] rfl okX7_holdFast rfl lmL_95 rfl (rc16) (Nat.le_of_ble_eq_true rfl) (eX7_holdFast e1248) (Nat.le_of_ble_eq_true rfl) rfl ?_
                                              refine ev_iceq (a := 15) (b := 19) 1379 rfl rfl (fun c1250 => ?_) (fun c1250 => ?_)
                                              · have h := (if_pos c1250).symm.trans h
                                                refine ev_iinc (a := 29) (b := 25) (x3 + 6) [(0, ic_R 27 0 0), (1, ic_R 0 0 0), (2, ic_R 16 0 0), (3, ic_I (x3 + 6))] rfl rfl (by first | rfl | decide) (by decide) (And.intro (Or.inr (And.intro rfl rfl)) (And.intro (Or.inr (And.intro rfl rfl)) (And.intro (Or.inr (And.intro rfl rfl)) (And.intro (Or.inl rfl) trivial)))) ?_
                                                refine ev_goto (a := 29) (b := 26) 18 rfl rfl ?_
                                                refine ev_fw (lv' := [(0, ic_R 27 0 0), (1, ic_R 0 0 0), (2, ic_R 16 0 0), (3, ic_I (x3 + 6))]) ?_ (And.intro rfl (And.intro rfl (And.intro rfl (And.intro rfl trivial))))
                                                exact ih (x3 + 6) g1247 _ h _ _ hq
                                              · have h := (if_neg c1250).symm.trans h
                                                refine ev_iconst (a := 15) (b := 20) 0 rfl (by decide) ?_
                                                obtain rfl := ic_s1 h
                                                obtain ⟨rfl, rfl⟩ := hq
                                                exact ev_ireturn (a := 15) (b := 21) rfl rfl rfl
                                            · have h := (if_neg c1022).symm.trans h
                                              rcases Decidable.em (((g.1 40 (Int32.toNatClampNeg x3)) &&& 63) = 20) with c1023 | c1023
                                              · have h := (if_pos c1023).symm.trans h
                                                refine ev_tsw1 (a := 0) (b := 21) 20 (775) 808 rfl c1023 (by decide) (by decide) rfl rfl ?_
                                                refine ev_aload_n (a := 15) (b := 22) rfl rfl ?_
                                                refine ev_aload_n (a := 15) (b := 23) rfl rfl ?_
                                                refine ev_iload_n (a := 15) (b := 24) rfl rfl ?_
                                                refine ev_iconst (a := 15) (b := 25) 1 rfl (by decide) ?_
                                                refine ev_iadd (a := 15) (b := 26) rfl ?_
                                                obtain ⟨h1251, h⟩ := ic_gdE h
                                                refine ev_xald (a := 15) (b := 27) (ic_xin h1251) rfl ?_
                                                refine ev_aload_n (a := 15) (b := 28) rfl rfl ?_
                                                refine ev_iload_n (a := 15) (b := 29) rfl rfl ?_
                                                refine ev_iconst (a := 15) (b := 30) 2 rfl (by decide) ?_
                                                refine ev_iadd (a := 15) (b := 31) rfl ?_
                                                obtain ⟨h1252, h⟩ := ic_gdE h
                                                refine ev_xald (a := 16) (b := 0) (ic_xin h1252) rfl ?_
                                                obtain ⟨v1255, g1253, e1254, h⟩ := ic_b2E h
                                                refine ev_ivI (a := 16) (b := 1) [ic_I (g.1 40 (Int32.toNatClampNeg (x3 + 1))), ic_I (g.1 40 (Int32.toNatClampNeg (x3 + 2)))] rfl okX6_fits rfl lmL_96 rfl (rc0) (Nat.le_of_ble_eq_true rfl) (eX6_fits e1254) (Nat.le_of_ble_eq_true rfl) rfl ?_
                                                refine ev_aload_n (a := 16) (b := 2) rfl rfl ?_
                                                refine ev_aload_n (a := 16) (b := 3) rfl rfl ?_
                                                refine ev_iload_n (a := 16) (b := 4) rfl rfl ?_
                                                refine ev_iconst (a := 16) (b := 5) 1 rfl (by decide) ?_
                                                refine ev_iadd (a := 16) (b := 6) rfl ?_
                                                obtain ⟨h1256, h⟩ := ic_gdE h
                                                refine ev_xald (a := 16) (b := 7) (ic_xin h1256) rfl ?_
                                                refine ev_aload_n (a := 16) (b := 8) rfl rfl ?_
                                                refine ev_iload_n (a := 16) (b := 9) rfl rfl ?_
                                                refine ev_iconst (a := 16) (b := 10) 2 rfl (by decide) ?_
                                                refine ev_iadd (a := 16) (b := 11) rfl ?_
                                                obtain ⟨h1257, h⟩ := ic_gdE h
                                                refine ev_xald (a := 16) (b := 12) (ic_xin h1257) rfl ?_
                                                obtain ⟨v1260, g1258, e1259, h⟩ := ic_b2E h
                                                refine ev_ivI (a := 16) (b := 13) [ic_I (g1253.1 40 (Int32.toNatClampNeg (x3 + 1))), ic_I (g1253.1 40 (Int32.toNatClampNeg (x3 + 2)))] rfl okX7_fits rfl lmL_99 rfl (rc16) (Nat.le_of_ble_eq_true rfl) (eX7_fits e1259) (Nat.le_of_ble_eq_true rfl) rfl ?_
                                                refine ev_iceq (a := 16) (b := 14) 1379 rfl rfl (fun c1261 => ?_) (fun c1261 => ?_)
                                                · have h := (if_pos c1261).symm.trans h
                                                  refine ev_iinc (a := 29) (b := 25) (x3 + 6) [(0, ic_R 27 0 0), (1, ic_R 0 0 0), (2, ic_R 16 0 0), (3, ic_I (x3 + 6))] rfl rfl (by first | rfl | decide) (by decide) (And.intro (Or.inr (And.intro rfl rfl)) (And.intro (Or.inr (And.intro rfl rfl)) (And.intro (Or.inr (And.intro rfl rfl)) (And.intro (Or.inl rfl) trivial)))) ?_
                                                  refine ev_goto (a := 29) (b := 26) 18 rfl rfl ?_
                                                  refine ev_fw (lv' := [(0, ic_R 27 0 0), (1, ic_R 0 0 0), (2, ic_R 16 0 0), (3, ic_I (x3 + 6))]) ?_ (And.intro rfl (And.intro rfl (And.intro rfl (And.intro rfl trivial))))
                                                  exact ih (x3 + 6) g1258 _ h _ _ hq
                                                · have h := (if_neg c1261).symm.trans h
                                                  refine ev_iconst (a := 16) (b := 15) 0 rfl (by decide) ?_
                                                  obtain rfl := ic_s1 h
                                                  obtain ⟨rfl, rfl⟩ := hq
                                                  exact ev_ireturn (a := 16) (b := 16) rfl rfl rfl
                                              · have h := (if_neg c1023).symm.trans h
                                                rcases Decidable.em (((g.1 40 (Int32.toNatClampNeg x3)) &&& 63) = 21) with c1024 | c1024
                                                · have h := (if_pos c1024).symm.trans h
                                                  refine ev_tsw1 (a := 0) (b := 21) 21 (808) 841 rfl c1024 (by decide) (by decide) rfl rfl ?_
                                                  refine ev_aload_n (a := 16) (b := 17) rfl rfl ?_
                                                  refine ev_aload_n (a := 16) (b := 18) rfl rfl ?_
                                                  refine ev_iload_n (a := 16) (b := 19) rfl rfl ?_
                                                  refine ev_iconst (a := 16) (b := 20) 1 rfl (by decide) ?_
                                                  refine ev_iadd (a := 16) (b := 21) rfl ?_
                                                  obtain ⟨h1262, h⟩ := ic_gdE h
                                                  refine ev_xald (a := 16) (b := 22) (ic_xin h1262) rfl ?_
                                                  refine ev_aload_n (a := 16) (b := 23) rfl rfl ?_
                                                  refine ev_iload_n (a := 16) (b := 24) rfl rfl ?_
                                                  refine ev_iconst (a := 16) (b := 25) 2 rfl (by decide) ?_
                                                  refine ev_iadd (a := 16) (b := 26) rfl ?_
                                                  obtain ⟨h1263, h⟩ := ic_gdE h
                                                  refine ev_xald (a := 16) (b := 27) (ic_xin h1263) rfl ?_
                                                  obtain ⟨v1266, g1264, e1265, h⟩ := ic_b2E h
                                                  refine ev_ivI (a := 16) (b := 28) [ic_I (g.1 40 (Int32.toNatClampNeg (x3 + 1))), ic_I (g.1 40 (Int32.toNatClampNeg (x3 + 2)))] rfl okX6_kinds rfl lmL_100 rfl (rc0) (Nat.le_of_ble_eq_true rfl) (eX6_kinds e1265) (Nat.le_of_ble_eq_true rfl) rfl ?_
                                                  refine ev_aload_n (a := 16) (b := 29) rfl rfl ?_
                                                  refine ev_aload_n (a := 16) (b := 30) rfl rfl ?_
                                                  refine ev_iload_n (a := 16) (b := 31) rfl rfl ?_
                                                  refine ev_iconst (a := 17) (b := 0) 1 rfl (by decide) ?_
                                                  refine ev_iadd (a := 17) (b := 1) rfl ?_
                                                  obtain ⟨h1267, h⟩ := ic_gdE h
                                                  refine ev_xald (a := 17) (b := 2) (ic_xin h1267) rfl ?_
                                                  refine ev_aload_n (a := 17) (b := 3) rfl rfl ?_
                                                  refine ev_iload_n (a := 17) (b := 4) rfl rfl ?_
                                                  refine ev_iconst (a := 17) (b := 5) 2 rfl (by decide) ?_
                                                  refine ev_iadd (a := 17) (b := 6) rfl ?_
                                                  obtain ⟨h1268, h⟩ := ic_gdE h
                                                  refine ev_xald (a := 17) (b := 7) (ic_xin h1268) rfl ?_
                                                  obtain ⟨v1271, g1269, e1270, h⟩ := ic_b2E h
                                                  refine ev_ivI (a := 17) (b := 8) [ic_I (g1264.1 40 (Int32.toNatClampNeg (x3 + 1))), ic_I (g1264.1 40 (Int32.toNatClampNeg (x3 + 2)))] rfl okX7_kinds rfl lmL_103 rfl (rc16) (Nat.le_of_ble_eq_true rfl) (eX7_kinds e1270) (Nat.le_of_ble_eq_true rfl) rfl ?_
                                                  refine ev_iceq (a := 17) (b := 9) 1379 rfl rfl (fun c1272 => ?_) (fun c1272 => ?_)
                                                  · have h := (if_pos c1272).symm.trans h
                                                    refine ev_iinc (a := 29) (b := 25) (x3 + 6) [(0, ic_R 27 0 0), (1, ic_R 0 0 0), (2, ic_R 16 0 0), (3, ic_I (x3 + 6))] rfl rfl (by first | rfl | decide) (by decide) (And.intro (Or.inr (And.intro rfl rfl)) (And.intro (Or.inr (And.intro rfl rfl)) (And.intro (Or.inr (And.intro rfl rfl)) (And.intro (Or.inl rfl) trivial)))) ?_
                                                    refine ev_goto (a := 29) (b := 26) 18 rfl rfl ?_
                                                    refine ev_fw (lv' := [(0, ic_R 27 0 0), (1, ic_R 0 0 0), (2, ic_R 16 0 0), (3, ic_I (x3 + 6))]) ?_ (And.intro rfl (And.intro rfl (And.intro rfl (And.intro rfl trivial))))
                                                    exact ih (x3 + 6) g1269 _ h _ _ hq
                                                  · have h := (if_neg c1272).symm.trans h
                                                    refine ev_iconst (a := 17) (b := 10) 0 rfl (by decide) ?_
                                                    obtain rfl := ic_s1 h
                                                    obtain ⟨rfl, rfl⟩ := hq
                                                    exact ev_ireturn (a := 17) (b := 11) rfl rfl rfl
                                                · have h := (if_neg c1024).symm.trans h
                                                  rcases Decidable.em (((g.1 40 (Int32.toNatClampNeg x3)) &&& 63) = 22) with c1025 | c1025
                                                  · have h := (if_pos c1025).symm.trans h
                                                    refine ev_tsw1 (a := 0) (b := 21) 22 (841) 874 rfl c1025 (by decide) (by decide) rfl rfl ?_
                                                    refine ev_aload_n (a := 17) (b := 12) rfl rfl ?_
                                                    refine ev_aload_n (a := 17) (b := 13) rfl rfl ?_
                                                    refine ev_iload_n (a := 17) (b := 14) rfl rfl ?_
                                                    refine ev_iconst (a := 17) (b := 15) 1 rfl (by decide) ?_
                                                    refine ev_iadd (a := 17) (b := 16) rfl ?_
                                                    obtain ⟨h1273, h⟩ := ic_gdE h
                                                    refine ev_xald (a := 17) (b := 17) (ic_xin h1273) rfl ?_
                                                    obtain ⟨v1276, g1274, e1275, h⟩ := ic_b2E h
                                                    refine ev_ivI (a := 17) (b := 18) [ic_I (g.1 40 (Int32.toNatClampNeg (x3 + 1)))] rfl okX6_calls rfl lmL_104 rfl (rc0) (Nat.le_of_ble_eq_true rfl) (eX6_calls e1275) (Nat.le_of_ble_eq_true rfl) rfl ?_
                                                    refine ev_aload_n (a := 17) (b := 19) rfl rfl ?_
                                                    refine ev_aload_n (a := 17) (b := 20) rfl rfl ?_
                                                    refine ev_iload_n (a := 17) (b := 21) rfl rfl ?_
                                                    refine ev_iconst (a := 17) (b := 22) 1 rfl (by decide) ?_
                                                    refine ev_iadd (a := 17) (b := 23) rfl ?_
                                                    obtain ⟨h1277, h⟩ := ic_gdE h
                                                    refine ev_xald (a := 17) (b := 24) (ic_xin h1277) rfl ?_
                                                    obtain ⟨v1280, g1278, e1279, h⟩ := ic_b2E h
                                                    refine ev_ivI (a := 17) (b := 25) [ic_I (g1274.1 40 (Int32.toNatClampNeg (x3 + 1)))] rfl okX7_calls rfl lmL_107 rfl (rc16) (Nat.le_of_ble_eq_true rfl) (eX7_calls e1279) (Nat.le_of_ble_eq_true rfl) rfl ?_
                                                    refine ev_iceq (a := 17) (b := 26) 1379 rfl rfl (fun c1281 => ?_) (fun c1281 => ?_)
                                                    · have h := (if_pos c1281).symm.trans h
                                                      refine ev_iinc (a := 29) (b := 25) (x3 + 6) [(0, ic_R 27 0 0), (1, ic_R 0 0 0), (2, ic_R 16 0 0), (3, ic_I (x3 + 6))] rfl rfl (by first | rfl | decide) (by decide) (And.intro (Or.inr (And.intro rfl rfl)) (And.intro (Or.inr (And.intro rfl rfl)) (And.intro (Or.inr (And.intro rfl rfl)) (And.intro (Or.inl rfl) trivial)))) ?_
                                                      refine ev_goto (a := 29) (b := 26) 18 rfl rfl ?_
                                                      refine ev_fw (lv' := [(0, ic_R 27 0 0), (1, ic_R 0 0 0), (2, ic_R 16 0 0), (3, ic_I (x3 + 6))]) ?_ (And.intro rfl (And.intro rfl (And.intro rfl (And.intro rfl trivial))))
                                                      exact ih (x3 + 6) g1278 _ h _ _ hq
                                                    · have h := (if_neg c1281).symm.trans h
                                                      refine ev_iconst (a := 17) (b := 27) 0 rfl (by decide) ?_
                                                      obtain rfl := ic_s1 h
                                                      obtain ⟨rfl, rfl⟩ := hq
                                                      exact ev_ireturn (a := 17) (b := 28) rfl rfl rfl
                                                  · have h := (if_neg c1025).symm.trans h
                                                    rcases Decidable.em (((g.1 40 (Int32.toNatClampNeg x3)) &&& 63) = 23) with c1026 | c1026
                                                    · have h := (if_pos c1026).symm.trans h
                                                      refine ev_tsw1 (a := 0) (b := 21) 23 (864) 897 rfl c1026 (by decide) (by decide) rfl rfl ?_
                                                      refine ev_aload_n (a := 17) (b := 29) rfl rfl ?_
                                                      refine ev_aload_n (a := 17) (b := 30) rfl rfl ?_
                                                      refine ev_iload_n (a := 17) (b := 31) rfl rfl ?_
                                                      refine ev_iconst (a := 18) (b := 0) 1 rfl (by decide) ?_
                                                      refine ev_iadd (a := 18) (b := 1) rfl ?_
                                                      obtain ⟨h1282, h⟩ := ic_gdE h
                                                      refine ev_xald (a := 18) (b := 2) (ic_xin h1282) rfl ?_
                                                      refine ev_aload_n (a := 18) (b := 3) rfl rfl ?_
                                                      refine ev_iload_n (a := 18) (b := 4) rfl rfl ?_
                                                      refine ev_iconst (a := 18) (b := 5) 2 rfl (by decide) ?_
                                                      refine ev_iadd (a := 18) (b := 6) rfl ?_
                                                      obtain ⟨h1283, h⟩ := ic_gdE h
                                                      refine ev_xald (a := 18) (b := 7) (ic_xin h1283) rfl ?_
                                                      refine ev_aload_n (a := 18) (b := 8) rfl rfl ?_
                                                      refine ev_iload_n (a := 18) (b := 9) rfl rfl ?_
                                                      refine ev_iconst (a := 18) (b := 10) 3 rfl (by decide) ?_
                                                      refine ev_iadd (a := 18) (b := 11) rfl ?_
                                                      obtain ⟨h1284, h⟩ := ic_gdE h
                                                      refine ev_xald (a := 18) (b := 12) (ic_xin h1284) rfl ?_
                                                      refine ev_aload_n (a := 18) (b := 13) rfl rfl ?_
                                                      refine ev_iload_n (a := 18) (b := 14) rfl rfl ?_
                                                      refine ev_iconst (a := 18) (b := 15) 4 rfl (by decide) ?_
                                                      refine ev_iadd (a := 18) (b := 16) rfl ?_
                                                      obtain ⟨h1285, h⟩ := ic_gdE h
                                                      refine ev_xald (a := 18) (b := 17) (ic_xin h1285) rfl ?_
                                                      obtain ⟨v1288, g1286, e1287, h⟩ := ic_b2E h
                                                      refine ev_ivJ (a := 18) (b := 18) [ic_I (g.1 40 (Int32.toNatClampNeg (x3 + 1))), ic_I (g.1 40 (Int32.toNatClampNeg (x3 + 2))), ic_I (g.1 40 (Int32.toNatClampNeg (x3 + 3))), ic_I (g.1 40 (Int32.toNatClampNeg (x3 + 4)))] rfl okX6_odds rfl lmL_108 rfl (rc0) (Nat.le_of_ble_eq_true rfl) (eX6_odds e1287) (Nat.le_of_ble_eq_true rfl) rfl ?_
                                                      refine ev_aload_n (a := 18) (b := 19) rfl rfl ?_
                                                      refine ev_aload_n (a := 18) (b := 20) rfl rfl ?_
                                                      refine ev_iload_n (a := 18) (b := 21) rfl rfl ?_
                                                      refine ev_iconst (a := 18) (b := 22) 1 rfl (by decide) ?_
                                                      refine ev_iadd (a := 18) (b := 23) rfl ?_
                                                      obtain ⟨h1289, h⟩ := ic_gdE h
                                                      refine ev_xald (a := 18) (b := 24) (ic_xin h1289) rfl ?_
                                                      refine ev_aload_n (a := 18) (b := 25) rfl rfl ?_
                                                      refine ev_iload_n (a := 18) (b := 26) rfl rfl ?_
                                                      refine ev_iconst (a := 18) (b := 27) 2 rfl (by decide) ?_
                                                      refine ev_iadd (a := 18) (b := 28) rfl ?_
                                                      obtain ⟨h1290, h⟩ := ic_gdE h
                                                      refine ev_xald (a := 18) (b := 29) (ic_xin h1290) rfl ?_
                                                      refine ev_aload_n (a := 18) (b := 30) rfl rfl ?_
                                                      refine ev_iload_n (a := 18) (b := 31) rfl rfl ?_
                                                      refine ev_iconst (a := 19) (b := 0) 3 rfl (by decide) ?_
                                                      refine ev_iadd (a := 19) (b := 1) rfl ?_
                                                      obtain ⟨h1291, h⟩ := ic_gdE h
                                                      refine ev_xald (a := 19) (b := 2) (ic_xin h1291) rfl ?_
                                                      refine ev_aload_n (a := 19) (b := 3) rfl rfl ?_
                                                      refine ev_iload_n (a := 19) (b := 4) rfl rfl ?_
                                                      refine ev_iconst (a := 19) (b := 5) 4 rfl (by decide) ?_
                                                      refine ev_iadd (a := 19) (b := 6) rfl ?_
                                                      obtain ⟨h1292, h⟩ := ic_gdE h
                                                      refine ev_xald (a := 19) (b := 7) (ic_xin h1292) rfl ?_
                                                      obtain ⟨v1295, g1293, e1294, h⟩ := ic_b2E h
                                                      refine ev_ivJ (a := 19) (b := 8) [ic_I (g1286.1 40 (Int32.toNatClampNeg (x3 + 1))), ic_I (g1286.1 40 (Int32.toNatClampNeg (x3 + 2))), ic_I (g1286.1 40 (Int32.toNatClampNeg (x3 + 3))), ic_I (g1286.1 40 (Int32.toNatClampNeg (x3 + 4)))] rfl okX7_odds rfl lmL_112 rfl (rc16) (Nat.le_of_ble_eq_true rfl) (eX7_odds e1294) (Nat.le_of_ble_eq_true rfl) rfl ?_
                                                      refine ev_lcmp (a := 19) (b := 9) rfl ?_
                                                      refine ev_ifeq (a := 19) (b := 10) 1379 rfl rfl (fun c1296 => ?_) (fun c1296 => ?_)
                                                      · have h := (if_pos c1296).symm.trans h
                                                        refine ev_iinc (a := 29) (b := 25) (x3 + 6) [(0, ic_R 27 0 0), (1, ic_R 0 0 0), (2, ic_R 16 0 0), (3, ic_I (x3 + 6))] rfl rfl (by first | rfl | decide) (by decide) (And.intro (Or.inr (And.intro rfl rfl)) (And.intro (Or.inr (And.intro rfl rfl)) (And.intro (Or.inr (And.intro rfl rfl)) (And.intro (Or.inl rfl) trivial)))) ?_
                                                        refine ev_goto (a := 29) (b := 26) 18 rfl rfl ?_
                                                        refine ev_fw (lv' := [(0, ic_R 27 0 0), (1, ic_R 0 0 0), (2, ic_R 16 0 0), (3, ic_I (x3 + 6))]) ?_ (And.intro rfl (And.intro rfl (And.intro rfl (And.intro rfl trivial))))
                                                        exact ih (x3 + 6) g1293 _ h _ _ hq
                                                      · have h := (if_neg c1296).symm.trans h
                                                        refine ev_iconst (a := 19) (b := 11) 0 rfl (by decide) ?_
                                                        obtain rfl := ic_s1 h
                                                        obtain ⟨rfl, rfl⟩ := hq
                                                        exact ev_ireturn (a := 19) (b := 12) rfl rfl rfl
                                                    · have h := (if_neg c1026).symm.trans h
                                                      rcases Decidable.em (((g.1 40 (Int32.toNatClampNeg x3)) &&& 63) = 24) with c1027 | c1027
                                                      · have h := (if_pos c1027).symm.trans h
                                                        refine ev_tsw1 (a := 0) (b := 21) 24 (918) 951 rfl c1027 (by decide) (by decide) rfl rfl ?_
                                                        refine ev_aload_n (a := 19) (b := 13) rfl rfl ?_
                                                        refine ev_aload_n (a := 19) (b := 14) rfl rfl ?_
                                                        refine ev_iload_n (a := 19) (b := 15) rfl rfl ?_
                                                        refine ev_iconst (a := 19) (b := 16) 1 rfl (by decide) ?_
                                                        refine ev_iadd (a := 19) (b := 17) rfl ?_
                                                        obtain ⟨h1297, h⟩ := ic_gdE h
                                                        refine ev_xald (a := 19) (b := 18) (ic_xin h1297) rfl ?_
                                                        obtain ⟨v1300, g1298, e1299, h⟩ := ic_b2E h
                                                        refine ev_ivI (a := 19) (b := 19) [ic_I (g.1 40 (Int32.toNatClampNeg (x3 + 1)))] rfl okX6_seed rfl lmL_113 rfl (rc0) (Nat.le_of_ble_eq_true rfl) (eX6_seed e1299) (Nat.le_of_ble_eq_true rfl) rfl ?_
                                                        refine ev_aload_n (a := 19) (b := 20) rfl rfl ?_
                                                        refine ev_aload_n (a := 19) (b := 21) rfl rfl ?_
                                                        refine ev_iload_n (a := 19) (b := 22) rfl rfl ?_
                                                        refine ev_iconst (a := 19) (b := 23) 1 rfl (by decide) ?_
                                                        refine ev_iadd (a := 19) (b := 24) rfl ?_
                                                        obtain ⟨h1301, h⟩ := ic_gdE h
                                                        refine ev_xald (a := 19) (b := 25) (ic_xin h1301) rfl ?_
                                                        obtain ⟨v1304, g1302, e1303, h⟩ := ic_b2E h
                                                        refine ev_ivI (a := 19) (b := 26) [ic_I (g1298.1 40 (Int32.toNatClampNeg (x3 + 1)))] rfl okX7_seed rfl lmL_116 rfl (rc16) (Nat.le_of_ble_eq_true rfl) (eX7_seed e1303) (Nat.le_of_ble_eq_true rfl) rfl ?_
                                                        refine ev_iceq (a := 19) (b := 27) 1379 rfl rfl (fun c1305 => ?_) (fun c1305 => ?_)
                                                        · have h := (if_pos c1305).symm.trans h
                                                          refine ev_iinc (a := 29) (b := 25) (x3 + 6) [(0, ic_R 27 0 0), (1, ic_R 0 0 0), (2, ic_R 16 0 0), (3, ic_I (x3 + 6))] rfl rfl (by first | rfl | decide) (by decide) (And.intro (Or.inr (And.intro rfl rfl)) (And.intro (Or.inr (And.intro rfl rfl)) (And.intro (Or.inr (And.intro rfl rfl)) (And.intro (Or.inl rfl) trivial)))) ?_
                                                          refine ev_goto (a := 29) (b := 26) 18 rfl rfl ?_
                                                          refine ev_fw (lv' := [(0, ic_R 27 0 0), (1, ic_R 0 0 0), (2, ic_R 16 0 0), (3, ic_I (x3 + 6))]) ?_ (And.intro rfl (And.intro rfl (And.intro rfl (And.intro rfl trivial))))
                                                          exact ih (x3 + 6) g1302 _ h _ _ hq
                                                        · have h := (if_neg c1305).symm.trans h
                                                          refine ev_iconst (a := 19) (b := 28) 0 rfl (by decide) ?_
                                                          obtain rfl := ic_s1 h
                                                          obtain ⟨rfl, rfl⟩ := hq
                                                          exact ev_ireturn (a := 19) (b := 29) rfl rfl rfl
                                                      · have h := (if_neg c1027).symm.trans h
                                                        rcases Decidable.em (((g.1 40 (Int32.toNatClampNeg x3)) &&& 63) = 25) with c1028 | c1028
                                                        · have h := (if_pos c1028).symm.trans h
                                                          refine ev_tsw1 (a := 0) (b := 21) 25 (941) 974 rfl c1028 (by decide) (by decide) rfl rfl ?_
                                                          refine ev_aload_n (a := 19) (b := 30) rfl rfl ?_
                                                          refine ev_aload_n (a := 19) (b := 31) rfl rfl ?_
                                                          refine ev_iload_n (a := 20) (b := 0) rfl rfl ?_
                                                          refine ev_iconst (a := 20) (b := 1) 1 rfl (by decide) ?_
                                                          refine ev_iadd (a := 20) (b := 2) rfl ?_
                                                          obtain ⟨h1306, h⟩ := ic_gdE h
                                                          refine ev_xald (a := 20) (b := 3) (ic_xin h1306) rfl ?_
                                                          refine ev_aload_n (a := 20) (b := 4) rfl rfl ?_
                                                          refine ev_iload_n (a := 20) (b := 5) rfl rfl ?_
                                                          refine ev_iconst (a := 20) (b := 6) 2 rfl (by decide) ?_
                                                          refine ev_iadd (a := 20) (b := 7) rfl ?_
                                                          obtain ⟨h1307, h⟩ := ic_gdE h
                                                          refine ev_xald (a := 20) (b := 8) (ic_xin h1307) rfl ?_
                                                          obtain ⟨v1310, g1308, e1309, h⟩ := ic_b2E h
                                                          refine ev_ivI (a := 20) (b := 9) [ic_I (g.1 40 (Int32.toNatClampNeg (x3 + 1))), ic_I (g.1 40 (Int32.toNatClampNeg (x3 + 2)))] rfl okX6_feed rfl lmL_117 rfl (rc0) (Nat.le_of_ble_eq_true rfl) (eX6_feed e1309) (Nat.le_of_ble_eq_true rfl) rfl ?_
                                                          refine ev_aload_n (a := 20) (b := 10) rfl rfl ?_
                                                          refine ev_aload_n (a := 20) (b := 11) rfl rfl ?_
                                                          refine ev_iload_n (a := 20) (b := 12) rfl rfl ?_
                                                          refine ev_iconst (a := 20) (b := 13) 1 rfl (by decide) ?_
                                                          refine ev_iadd (a := 20) (b := 14) rfl ?_
                                                          obtain ⟨h1311, h⟩ := ic_gdE h
                                                          refine ev_xald (a := 20) (b := 15) (ic_xin h1311) rfl ?_
                                                          refine ev_aload_n (a := 20) (b := 16) rfl rfl ?_
                                                          refine ev_iload_n (a := 20) (b := 17) rfl rfl ?_
                                                          refine ev_iconst (a := 20) (b := 18) 2 rfl (by decide) ?_
                                                          refine ev_iadd (a := 20) (b := 19) rfl ?_
                                                          obtain ⟨h1312, h⟩ := ic_gdE h
                                                          refine ev_xald (a := 20) (b := 20) (ic_xin h1312) rfl ?_
                                                          obtain ⟨v1315, g1313, e1314, h⟩ := ic_b2E h
                                                          refine ev_ivI (a := 20) (b := 21) [ic_I (g1308.1 40 (Int32.toNatClampNeg (x3 + 1))), ic_I (g1308.1 40 (Int32.toNatClampNeg (x3 + 2)))] rfl okX7_feed rfl lmL_120 rfl (rc16) (Nat.le_of_ble_eq_true rfl) (eX7_feed e1314) (Nat.le_of_ble_eq_true rfl) rfl ?_
                                                          refine ev_iceq (a := 20) (b := 22) 1379 rfl rfl (fun c1316 => ?_) (fun c1316 => ?_)
                                                          · have h := (if_pos c1316).symm.trans h
                                                            refine ev_iinc (a := 29) (b := 25) (x3 + 6) [(0, ic_R 27 0 0), (1, ic_R 0 0 0), (2, ic_R 16 0 0), (3, ic_I (x3 + 6))] rfl rfl (by first | rfl | decide) (by decide) (And.intro (Or.inr (And.intro rfl rfl)) (And.intro (Or.inr (And.intro rfl rfl)) (And.intro (Or.inr (And.intro rfl rfl)) (And.intro (Or.inl rfl) trivial)))) ?_
                                                            refine ev_goto (a := 29) (b := 26) 18 rfl rfl ?_
                                                            refine ev_fw (lv' := [(0, ic_R 27 0 0), (1, ic_R 0 0 0), (2, ic_R 16 0 0), (3, ic_I (x3 + 6))]) ?_ (And.intro rfl (And.intro rfl (And.intro rfl (And.intro rfl trivial))))
                                                            exact ih (x3 + 6) g1313 _ h _ _ hq
                                                          · have h := (if_neg c1316).symm.trans h
                                                            refine ev_iconst (a := 20) (b := 23) 0 rfl (by decide) ?_
                                                            obtain rfl := ic_s1 h
                                                            obtain ⟨rfl, rfl⟩ := hq
                                                            exact ev_ireturn (a := 20) (b := 24) rfl rfl rfl
                                                        · have h := (if_neg c1028).symm.trans h
                                                          rcases Decidable.em (((g.1 40 (Int32.toNatClampNeg x3)) &&& 63) = 26) with c1029 | c1029
                                                          · have h := (if_pos c1029).symm.trans h
                                                            refine ev_tsw1 (a := 0) (b := 21) 26 (974) 1007 rfl c1029 (by decide) (by decide) rfl rfl ?_
                                                            refine ev_aload_n (a := 20) (b := 25) rfl rfl ?_
                                                            obtain ⟨v1319, g1317, e1318, h⟩ := ic_b2E h
                                                            refine ev_ivI (a := 20) (b := 26) [] rfl okX6_wipe rfl lmL_121 rfl (rc0) (Nat.le_of_ble_eq_true rfl) (eX6_wipe e1318) (Nat.le_of_ble_eq_true rfl) rfl ?_
                                                            refine ev_aload_n (a := 20) (b := 27) rfl rfl ?_
                                                            obtain ⟨v1322, g1320, e1321, h⟩ := ic_b2E h
                                                            refine ev_ivI (a := 20) (b := 28) [] rfl okX7_wipe rfl lmL_125 rfl (rc16) (Nat.le_of_ble_eq_true rfl) (eX7_wipe e1321) (Nat.le_of_ble_eq_true rfl) rfl ?_
                                                            refine ev_iceq (a := 20) (b := 29) 1379 rfl rfl (fun c1323 => ?_) (fun c1323 => ?_)
                                                            · have h := (if_pos c1323).symm.trans h
                                                              refine ev_iinc (a := 29) (b := 25) (x3 + 6) [(0, ic_R 27 0 0), (1, ic_R 0 0 0), (2, ic_R 16 0 0), (3, ic_I (x3 + 6))] rfl rfl (by first | rfl | decide) (by decide) (And.intro (Or.inr (And.intro rfl rfl)) (And.intro (Or.inr (And.intro rfl rfl)) (And.intro (Or.inr (And.intro rfl rfl)) (And.intro (Or.inl rfl) trivial)))) ?_
                                                              refine ev_goto (a := 29) (b := 26) 18 rfl rfl ?_
                                                              refine ev_fw (lv' := [(0, ic_R 27 0 0), (1, ic_R 0 0 0), (2, ic_R 16 0 0), (3, ic_I (x3 + 6))]) ?_ (And.intro rfl (And.intro rfl (And.intro rfl (And.intro rfl trivial))))
                                                              exact ih (x3 + 6) g1320 _ h _ _ hq
                                                            · have h := (if_neg c1323).symm.trans h
                                                              refine ev_iconst (a := 20) (b := 30) 0 rfl (by decide) ?_
                                                              obtain rfl := ic_s1 h
                                                              obtain ⟨rfl, rfl⟩ := hq
                                                              exact ev_ireturn (a := 20) (b := 31) rfl rfl rfl
                                                          · have h := (if_neg c1029).symm.trans h
                                                            rcases Decidable.em (((g.1 40 (Int32.toNatClampNeg x3)) &&& 63) = 27) with c1030 | c1030
                                                            · have h := (if_pos c1030).symm.trans h
                                                              refine ev_tsw1 (a := 0) (b := 21) 27 (987) 1020 rfl c1030 (by decide) (by decide) rfl rfl ?_
                                                              refine ev_aload_n (a := 21) (b := 0) rfl rfl ?_
                                                              obtain ⟨v1326, g1324, e1325, h⟩ := ic_b2E h
                                                              refine ev_ivI (a := 21) (b := 1) [] rfl okX6_text rfl lmL_126 rfl (rc0) (Nat.le_of_ble_eq_true rfl) (eX6_text e1325) (Nat.le_of_ble_eq_true rfl) rfl ?_
                                                              refine ev_aload_n (a := 21) (b := 2) rfl rfl ?_
                                                              obtain ⟨v1329, g1327, e1328, h⟩ := ic_b2E h
                                                              refine ev_ivI (a := 21) (b := 3) [] rfl okX7_text rfl lmL_129 rfl (rc16) (Nat.le_of_ble_eq_true rfl) (eX7_text e1328) (Nat.le_of_ble_eq_true rfl) rfl ?_
                                                              refine ev_iceq (a := 21) (b := 4) 1379 rfl rfl (fun c1330 => ?_) (fun c1330 => ?_)
                                                              · have h := (if_pos c1330).symm.trans h
                                                                refine ev_iinc (a := 29) (b := 25) (x3 + 6) [(0, ic_R 27 0 0), (1, ic_R 0 0 0), (2, ic_R 16 0 0), (3, ic_I (x3 + 6))] rfl rfl (by first | rfl | decide) (by decide) (And.intro (Or.inr (And.intro rfl rfl)) (And.intro (Or.inr (And.intro rfl rfl)) (And.intro (Or.inr (And.intro rfl rfl)) (And.intro (Or.inl rfl) trivial)))) ?_
                                                                refine ev_goto (a := 29) (b := 26) 18 rfl rfl ?_
                                                                refine ev_fw (lv' := [(0, ic_R 27 0 0), (1, ic_R 0 0 0), (2, ic_R 16 0 0), (3, ic_I (x3 + 6))]) ?_ (And.intro rfl (And.intro rfl (And.intro rfl (And.intro rfl trivial))))
                                                                exact ih (x3 + 6) g1327 _ h _ _ hq
                                                              · have h := (if_neg c1330).symm.trans h
                                                                refine ev_iconst (a := 21) (b := 5) 0 rfl (by decide) ?_
                                                                obtain rfl := ic_s1 h
                                                                obtain ⟨rfl, rfl⟩ := hq
                                                                exact ev_ireturn (a := 21) (b := 6) rfl rfl rfl
                                                            · have h := (if_neg c1030).symm.trans h
                                                              rcases Decidable.em (((g.1 40 (Int32.toNatClampNeg x3)) &&& 63) = 28) with c1031 | c1031
                                                              · have h := (if_pos c1031).symm.trans h
                                                                refine ev_tsw1 (a := 0) (b := 21) 28 (1000) 1033 rfl c1031 (by decide) (by decide) rfl rfl ?_
                                                                refine ev_aload_n (a := 21) (b := 7) rfl rfl ?_
                                                                refine ev_aload_n (a := 21) (b := 8) rfl rfl ?_
                                                                refine ev_iload_n (a := 21) (b := 9) rfl rfl ?_
                                                                refine ev_iconst (a := 21) (b := 10) 1 rfl (by decide) ?_
                                                                refine ev_iadd (a := 21) (b := 11) rfl ?_
                                                                obtain ⟨h1331, h⟩ := ic_gdE h
                                                                refine ev_xald (a := 21) (b := 12) (ic_xin h1331) rfl ?_
                                                                refine ev_aload_n (a := 21) (b := 13) rfl rfl ?_
                                                                refine ev_iload_n (a := 21) (b := 14) rfl rfl ?_
                                                                refine ev_iconst (a := 21) (b := 15) 2 rfl (by decide) ?_
                                                                refine ev_iadd (a := 21) (b := 16) rfl ?_
                                                                obtain ⟨h1332, h⟩ := ic_gdE h
                                                                refine ev_xald (a := 21) (b := 17) (ic_xin h1332) rfl ?_
                                                                obtain ⟨v1335, g1333, e1334, h⟩ := ic_b2E h
                                                                refine ev_ivI (a := 21) (b := 18) [ic_I (g.1 40 (Int32.toNatClampNeg (x3 + 1))), ic_I (g.1 40 (Int32.toNatClampNeg (x3 + 2)))] rfl okX6_hold rfl lmL_130 rfl (rc0) (Nat.le_of_ble_eq_true rfl) (eX6_hold e1334) (Nat.le_of_ble_eq_true rfl) rfl ?_
                                                                refine ev_aload_n (a := 21) (b := 19) rfl rfl ?_
                                                                refine ev_aload_n (a := 21) (b := 20) rfl rfl ?_
                                                                refine ev_iload_n (a := 21) (b := 21) rfl rfl ?_
                                                                refine ev_iconst (a := 21) (b := 22) 1 rfl (by decide) ?_
                                                                refine ev_iadd (a := 21) (b := 23) rfl ?_
                                                                obtain ⟨h1336, h⟩ := ic_gdE h
                                                                refine ev_xald (a := 21) (b := 24) (ic_xin h1336) rfl ?_
                                                                refine ev_aload_n (a := 21) (b := 25) rfl rfl ?_
                                                                refine ev_iload_n (a := 21) (b := 26) rfl rfl ?_
                                                                refine ev_iconst (a := 21) (b := 27) 2 rfl (by decide) ?_
                                                                refine ev_iadd (a := 21) (b := 28) rfl ?_
                                                                obtain ⟨h1337, h⟩ := ic_gdE h
                                                                refine ev_xald (a := 21) (b := 29) (ic_xin h1337) rfl ?_
                                                                obtain ⟨v1340, g1338, e1339, h⟩ := ic_b2E h
                                                                refine ev_ivI (a := 21) (b := 30) [ic_I (g1333.1 40 (Int32.toNatClampNeg (x3 + 1))), ic_I (g1333.1 40 (Int32.toNatClampNeg (x3 + 2)))] rfl okX7_hold rfl lmL_133 rfl (rc16) (Nat.le_of_ble_eq_true rfl) (eX7_hold e1339) (Nat.le_of_ble_eq_true rfl) rfl ?_
                                                                refine ev_iceq (a := 21) (b := 31) 1379 rfl rfl (fun c1341 => ?_) (fun c1341 => ?_)
                                                                · have h := (if_pos c1341).symm.trans h
                                                                  refine ev_iinc (a := 29) (b := 25) (x3 + 6) [(0, ic_R 27 0 0), (1, ic_R 0 0 0), (2, ic_R 16 0 0), (3, ic_I (x3 + 6))] rfl rfl (by first | rfl | decide) (by decide) (And.intro (Or.inr (And.intro rfl rfl)) (And.intro (Or.inr (And.intro rfl rfl)) (And.intro (Or.inr (And.intro rfl rfl)) (And.intro (Or.inl rfl) trivial)))) ?_
                                                                  refine ev_goto (a := 29) (b := 26) 18 rfl rfl ?_
                                                                  refine ev_fw (lv' := [(0, ic_R 27 0 0), (1, ic_R 0 0 0), (2, ic_R 16 0 0), (3, ic_I (x3 + 6))]) ?_ (And.intro rfl (And.intro rfl (And.intro rfl (And.intro rfl trivial))))
                                                                  exact ih (x3 + 6) g1338 _ h _ _ hq
                                                                · have h := (if_neg c1341).symm.trans h
                                                                  refine ev_iconst (a := 22) (b := 0) 0 rfl (by decide) ?_
                                                                  obtain rfl := ic_s1 h
                                                                  obtain ⟨rfl, rfl⟩ := hq
                                                                  exact ev_ireturn (a := 22) (b := 1) rfl rfl rfl
                                                              · have h := (if_neg c1031).symm.trans h
                                                                rcases Decidable.em (((g.1 40 (Int32.toNatClampNeg x3)) &&& 63) = 29) with c1032 | c1032
                                                                · have h := (if_pos c1032).symm.trans h
                                                                  refine ev_tsw1 (a := 0) (b := 21) 29 (1033) 1066 rfl c1032 (by decide) (by decide) rfl rfl ?_
                                                                  refine ev_aload_n (a := 22) (b := 2) rfl rfl ?_
                                                                  refine ev_aload_n (a := 22) (b := 3) rfl rfl ?_
                                                                  refine ev_iload_n (a := 22) (b := 4) rfl rfl ?_
                                                                  refine ev_iconst (a := 22) (b := 5) 1 rfl (by decide) ?_
                                                                  refine ev_iadd (a := 22) (b := 6) rfl ?_
                                                                  obtain ⟨h1342, h⟩ := ic_gdE h
                                                                  refine ev_xald (a := 22) (b := 7) (ic_xin h1342) rfl ?_
                                                                  refine ev_aload_n (a := 22) (b := 8) rfl rfl ?_
                                                                  refine ev_iload_n (a := 22) (b := 9) rfl rfl ?_
                                                                  refine ev_iconst (a := 22) (b := 10) 2 rfl (by decide) ?_
                                                                  refine ev_iadd (a := 22) (b := 11) rfl ?_
                                                                  obtain ⟨h1343, h⟩ := ic_gdE h
                                                                  refine ev_xald (a := 22) (b := 12) (ic_xin h1343) rfl ?_
                                                                  obtain ⟨v1346, g1344, e1345, h⟩ := ic_b2E h
                                                                  refine ev_ivI (a := 22) (b := 13) [ic_I (g.1 40 (Int32.toNatClampNeg (x3 + 1))), ic_I (g.1 40 (Int32.toNatClampNeg (x3 + 2)))] rfl okX6_as rfl lmL_134 rfl (rc0) (Nat.le_of_ble_eq_true rfl) (eX6_as e1345) (Nat.le_of_ble_eq_true rfl) rfl ?_
                                                                  refine ev_aload_n (a := 22) (b := 14) rfl rfl ?_
                                                                  refine ev_aload_n (a := 22) (b := 15) rfl rfl ?_
                                                                  refine ev_iload_n (a := 22) (b := 16) rfl rfl ?_
                                                                  refine ev_iconst (a := 22) (b := 17) 1 rfl (by decide) ?_
                                                                  refine ev_iadd (a := 22) (b := 18) rfl ?_
                                                                  obtain ⟨h1347, h⟩ := ic_gdE h
                                                                  refine ev_xald (a := 22) (b := 19) (ic_xin h1347) rfl ?_
                                                                  refine ev_aload_n (a := 22) (b := 20) rfl rfl ?_
                                                                  refine ev_iload_n (a := 22) (b := 21) rfl rfl ?_
                                                                  refine ev_iconst (a := 22) (b := 22) 2 rfl (by decide) ?_
                                                                  refine ev_iadd (a := 22) (b := 23) rfl ?_
                                                                  obtain ⟨h1348, h⟩ := ic_gdE h
                                                                  refine ev_xald (a := 22) (b := 24) (ic_xin h1348) rfl ?_
                                                                  obtain ⟨v1351, g1349, e1350, h⟩ := ic_b2E h
                                                                  refine ev_ivI (a := 22) (b := 25) [ic_I (g1344.1 40 (Int32.toNatClampNeg (x3 + 1))), ic_I (g1344.1 40 (Int32.toNatClampNeg (x3 + 2)))] rfl okX7_as rfl lmL_137 rfl (rc16) (Nat.le_of_ble_eq_true rfl) (eX7_as e1350) (Nat.le_of_ble_eq_true rfl) rfl ?_
                                                                  refine ev_iceq (a := 22) (b := 26) 1379 rfl rfl (fun c1352 => ?_) (fun c1352 => ?_)
                                                                  · have h := (if_pos c1352).symm.trans h
                                                                    refine ev_iinc (a := 29) (b := 25) (x3 + 6) [(0, ic_R 27 0 0), (1, ic_R 0 0 0), (2, ic_R 16 0 0), (3, ic_I (x3 + 6))] rfl rfl (by first | rfl | decide) (by decide) (And.intro (Or.inr (And.intro rfl rfl)) (And.intro (Or.inr (And.intro rfl rfl)) (And.intro (Or.inr (And.intro rfl rfl)) (And.intro (Or.inl rfl) trivial)))) ?_
                                                                    refine ev_goto (a := 29) (b := 26) 18 rfl rfl ?_
                                                                    refine ev_fw (lv' := [(0, ic_R 27 0 0), (1, ic_R 0 0 0), (2, ic_R 16 0 0), (3, ic_I (x3 + 6))]) ?_ (And.intro rfl (And.intro rfl (And.intro rfl (And.intro rfl trivial))))
                                                                    exact ih (x3 + 6) g1349 _ h _ _ hq
                                                                  · have h := (if_neg c1352).symm.trans h
                                                                    refine ev_iconst (a := 22) (b := 27) 0 rfl (by decide) ?_
                                                                    obtain rfl := ic_s1 h
                                                                    obtain ⟨rfl, rfl⟩ := hq
                                                                    exact ev_ireturn (a := 22) (b := 28) rfl rfl rfl
                                                                · have h := (if_neg c1032).symm.trans h
                                                                  rcases Decidable.em (((g.1 40 (Int32.toNatClampNeg x3)) &&& 63) = 30) with c1033 | c1033
                                                                  · have h := (if_pos c1033).symm.trans h
                                                                    refine ev_tsw1 (a := 0) (b := 21) 30 (1066) 1099 rfl c1033 (by decide) (by decide) rfl rfl ?_
                                                                    refine ev_aload_n (a := 22) (b := 29) rfl rfl ?_
                                                                    refine ev_aload_n (a := 22) (b := 30) rfl rfl ?_
                                                                    refine ev_iload_n (a := 22) (b := 31) rfl rfl ?_
                                                                    refine ev_iconst (a := 23) (b := 0) 1 rfl (by decide) ?_
                                                                    refine ev_iadd (a := 23) (b := 1) rfl ?_
                                                                    obtain ⟨h1353, h⟩ := ic_gdE h
                                                                    refine ev_xald (a := 23) (b := 2) (ic_xin h1353) rfl ?_
                                                                    refine ev_aload_n (a := 23) (b := 3) rfl rfl ?_
                                                                    refine ev_iload_n (a := 23) (b := 4) rfl rfl ?_
                                                                    refine ev_iconst (a := 23) (b := 5) 2 rfl (by decide) ?_
                                                                    refine ev_iadd (a := 23) (b := 6) rfl ?_
                                                                    obtain ⟨h1354, h⟩ := ic_gdE h
                                                                    refine ev_xald (a := 23) (b := 7) (ic_xin h1354) rfl ?_
                                                                    refine ev_aload_n (a := 23) (b := 8) rfl rfl ?_
                                                                    refine ev_iload_n (a := 23) (b := 9) rfl rfl ?_
                                                                    refine ev_iconst (a := 23) (b := 10) 3 rfl (by decide) ?_
                                                                    refine ev_iadd (a := 23) (b := 11) rfl ?_
                                                                    obtain ⟨h1355, h⟩ := ic_gdE h
                                                                    refine ev_xald (a := 23) (b := 12) (ic_xin h1355) rfl ?_
                                                                    obtain ⟨v1358, g1356, e1357, h⟩ := ic_b2E h
                                                                    refine ev_ivI (a := 23) (b := 13) [ic_I (g.1 40 (Int32.toNatClampNeg (x3 + 1))), ic_I (g.1 40 (Int32.toNatClampNeg (x3 + 2))), ic_I (g.1 40 (Int32.toNatClampNeg (x3 + 3)))] rfl okX6_sheet rfl lmL_138 rfl (rc0) (Nat.le_of_ble_eq_true rfl) (eX6_sheet e1357) (Nat.le_of_ble_eq_true rfl) rfl ?_
                                                                    refine ev_aload_n (a := 23) (b := 14) rfl rfl ?_
                                                                    refine ev_aload_n (a := 23) (b := 15) rfl rfl ?_
                                                                    refine ev_iload_n (a := 23) (b := 16) rfl rfl ?_
                                                                    refine ev_iconst (a := 23) (b := 17) 1 rfl (by decide) ?_
                                                                    refine ev_iadd (a := 23) (b := 18) rfl ?_
                                                                    obtain ⟨h1359, h⟩ := ic_gdE h
                                                                    refine ev_xald (a := 23) (b := 19) (ic_xin h1359) rfl ?_
                                                                    refine ev_aload_n (a := 23) (b := 20) rfl rfl ?_
                                                                    refine ev_iload_n (a := 23) (b := 21) rfl rfl ?_
                                                                    refine ev_iconst (a := 23) (b := 22) 2 rfl (by decide) ?_
                                                                    refine ev_iadd (a := 23) (b := 23) rfl ?_
                                                                    obtain ⟨h1360, h⟩ := ic_gdE h
                                                                    refine ev_xald (a := 23) (b := 24) (ic_xin h1360) rfl ?_
                                                                    refine ev_aload_n (a := 23) (b := 25) rfl rfl ?_
                                                                    refine ev_iload_n (a := 23) (b := 26) rfl rfl ?_
                                                                    refine ev_iconst (a := 23) (b := 27) 3 rfl (by decide) ?_
                                                                    refine ev_iadd (a := 23) (b := 28) rfl ?_
                                                                    obtain ⟨h1361, h⟩ := ic_gdE h
                                                                    refine ev_xald (a := 23) (b := 29) (ic_xin h1361) rfl ?_
                                                                    obtain ⟨v1364, g1362, e1363, h⟩ := ic_b2E h
                                                                    refine ev_ivI (a := 23) (b := 30) [ic_I (g1356.1 40 (Int32.toNatClampNeg (x3 + 1))), ic_I (g1356.1 40 (Int32.toNatClampNeg (x3 + 2))), ic_I (g1356.1 40 (Int32.toNatClampNeg (x3 + 3)))] rfl okX7_sheet rfl lmL_141 rfl (rc16) (Nat.le_of_ble_eq_true rfl) (eX7_sheet e1363) (Nat.le_of_ble_eq_true rfl) rfl ?_
                                                                    refine ev_iceq (a := 23) (b := 31) 1379 rfl rfl (fun c1365 => ?_) (fun c1365 => ?_)
                                                                    · have h := (if_pos c1365).symm.trans h
                                                                      refine ev_iinc (a := 29) (b := 25) (x3 + 6) [(0, ic_R 27 0 0), (1, ic_R 0 0 0), (2, ic_R 16 0 0), (3, ic_I (x3 + 6))] rfl rfl (by first | rfl | decide) (by decide) (And.intro (Or.inr (And.intro rfl rfl)) (And.intro (Or.inr (And.intro rfl rfl)) (And.intro (Or.inr (And.intro rfl rfl)) (And.intro (Or.inl rfl) trivial)))) ?_
                                                                      refine ev_goto (a := 29) (b := 26) 18 rfl rfl ?_
                                                                      refine ev_fw (lv' := [(0, ic_R 27 0 0), (1, ic_R 0 0 0), (2, ic_R 16 0 0), (3, ic_I (x3 + 6))]) ?_ (And.intro rfl (And.intro rfl (And.intro rfl (And.intro rfl trivial))))
                                                                      exact ih (x3 + 6) g1362 _ h _ _ hq
                                                                    · have h := (if_neg c1365).symm.trans h
                                                                      refine ev_iconst (a := 24) (b := 0) 0 rfl (by decide) ?_
                                                                      obtain rfl := ic_s1 h
                                                                      obtain ⟨rfl, rfl⟩ := hq
                                                                      exact ev_ireturn (a := 24) (b := 1) rfl rfl rfl
                                                                  · have h := (if_neg c1033).symm.trans h
                                                                    rcases Decidable.em (((g.1 40 (Int32.toNatClampNeg x3)) &&& 63) = 31) with c1034 | c1034
                                                                    · have h := (if_pos c1034).symm.trans h
                                                                      refine ev_tsw1 (a := 0) (b := 21) 31 (1109) 1142 rfl c1034 (by decide) (by decide) rfl rfl ?_
                                                                      refine ev_aload_n (a := 24) (b := 2) rfl rfl ?_
                                                                      refine ev_aload_n (a := 24) (b := 3) rfl rfl ?_
                                                                      refine ev_iload_n (a := 24) (b := 4) rfl rfl ?_
                                                                      refine ev_iconst (a := 24) (b := 5) 1 rfl (by decide) ?_
                                                                      refine ev_iadd (a := 24) (b := 6) rfl ?_
                                                                      obtain ⟨h1366, h⟩ := ic_gdE h
                                                                      refine ev_xald (a := 24) (b := 7) (ic_xin h1366) rfl ?_
                                                                      refine ev_aload_n (a := 24) (b := 8) rfl rfl ?_
                                                                      refine ev_iload_n (a := 24) (b := 9) rfl rfl ?_
                                                                      refine ev_iconst (a := 24) (b := 10) 2 rfl (by decide) ?_
                                                                      refine ev_iadd (a := 24) (b := 11) rfl ?_
                                                                      obtain ⟨h1367, h⟩ := ic_gdE h
                                                                      refine ev_xald (a := 24) (b := 12) (ic_xin h1367) rfl ?_
                                                                      refine ev_aload_n (a := 24) (b := 13) rfl rfl ?_
                                                                      refine ev_iload_n (a := 24) (b := 14) rfl rfl ?_
                                                                      refine ev_iconst (a := 24) (b := 15) 3 rfl (by decide) ?_
                                                                      refine ev_iadd (a := 24) (b := 16) rfl ?_
                                                                      obtain ⟨h1368, h⟩ := ic_gdE h
                                                                      refine ev_xald (a := 24) (b := 17) (ic_xin h1368) rfl ?_
                                                                      obtain ⟨v1371, g1369, e1370, h⟩ := ic_b2E h
                                                                      refine ev_ivI (a := 24) (b := 18) [ic_I (g.1 40 (Int32.toNatClampNeg (x3 + 1))), ic_I (g.1 40 (Int32.toNatClampNeg (x3 + 2))), ic_I (g.1 40 (Int32.toNatClampNeg (x3 + 3)))] rfl okX6_write rfl lmL_142 rfl (rc0) (Nat.le_of_ble_eq_true rfl) (eX6_write e1370) (Nat.le_of_ble_eq_true rfl) rfl ?_
                                                                      refine ev_aload_n (a := 24) (b := 19) rfl rfl ?_
                                                                      refine ev_aload_n (a := 24) (b := 20) rfl rfl ?_
                                                                      refine ev_iload_n (a := 24) (b := 21) rfl rfl ?_
                                                                      refine ev_iconst (a := 24) (b := 22) 1 rfl (by decide) ?_
                                                                      refine ev_iadd (a := 24) (b := 23) rfl ?_
                                                                      obtain ⟨h1372, h⟩ := ic_gdE h
                                                                      refine ev_xald (a := 24) (b := 24) (ic_xin h1372) rfl ?_
                                                                      refine ev_aload_n (a := 24) (b := 25) rfl rfl ?_
                                                                      refine ev_iload_n (a := 24) (b := 26) rfl rfl ?_
                                                                      refine ev_iconst (a := 24) (b := 27) 2 rfl (by decide) ?_
                                                                      refine ev_iadd (a := 24) (b := 28) rfl ?_
                                                                      obtain ⟨h1373, h⟩ := ic_gdE h
                                                                      refine ev_xald (a := 24) (b := 29) (ic_xin h1373) rfl ?_
                                                                      refine ev_aload_n (a := 24) (b := 30) rfl rfl ?_
                                                                      refine ev_iload_n (a := 24) (b := 31) rfl rfl ?_
                                                                      refine ev_iconst (a := 25) (b := 0) 3 rfl (by decide) ?_
                                                                      refine ev_iadd (a := 25) (b := 1) rfl ?_
                                                                      obtain ⟨h1374, h⟩ := ic_gdE h
                                                                      refine ev_xald (a := 25) (b := 2) (ic_xin h1374) rfl ?_
                                                                      obtain ⟨v1377, g1375, e1376, h⟩ := ic_b2E h
                                                                      refine ev_ivI (a := 25) (b := 3) [ic_I (g1369.1 40 (Int32.toNatClampNeg (x3 + 1))), ic_I (g1369.1 40 (Int32.toNatClampNeg (x3 + 2))), ic_I (g1369.1 40 (Int32.toNatClampNeg (x3 + 3)))] rfl okX7_write rfl lmL_145 rfl (rc16) (Nat.le_of_ble_eq_true rfl) (eX7_write e1376) (Nat.le_of_ble_eq_true rfl) rfl ?_
                                                                      refine ev_iceq (a := 25) (b := 4) 1379 rfl rfl (fun c1378 => ?_) (fun c1378 => ?_)
                                                                      · have h := (if_pos c1378).symm.trans h
                                                                        refine ev_iinc (a := 29) (b := 25) (x3 + 6) [(0, ic_R 27 0 0), (1, ic_R 0 0 0), (2, ic_R 16 0 0), (3, ic_I (x3 + 6))] rfl rfl (by first | rfl | decide) (by decide) (And.intro (Or.inr (And.intro rfl rfl)) (And.intro (Or.inr (And.intro rfl rfl)) (And.intro (Or.inr (And.intro rfl rfl)) (And.intro (Or.inl rfl) trivial)))) ?_
                                                                        refine ev_goto (a := 29) (b := 26) 18 rfl rfl ?_
                                                                        refine ev_fw (lv' := [(0, ic_R 27 0 0), (1, ic_R 0 0 0), (2, ic_R 16 0 0), (3, ic_I (x3 + 6))]) ?_ (And.intro rfl (And.intro rfl (And.intro rfl (And.intro rfl trivial))))
                                                                        exact ih (x3 + 6) g1375 _ h _ _ hq
                                                                      · have h := (if_neg c1378).symm.trans h
                                                                        refine ev_iconst (a := 25) (b := 5) 0 rfl (by decide) ?_
                                                                        obtain rfl := ic_s1 h
                                                                        obtain ⟨rfl, rfl⟩ := hq
                                                                        exact ev_ireturn (a := 25) (b := 6) rfl rfl rfl
                                                                    · have h := (if_neg c1034).symm.trans h
                                                                      rcases Decidable.em (((g.1 40 (Int32.toNatClampNeg x3)) &&& 63) = 32) with c1035 | c1035
                                                                      · have h := (if_pos c1035).symm.trans h
                                                                        refine ev_tsw1 (a := 0) (b := 21) 32 (1152) 1185 rfl c1035 (by decide) (by decide) rfl rfl ?_
                                                                        refine ev_aload_n (a := 25) (b := 7) rfl rfl ?_
                                                                        refine ev_aload_n (a := 25) (b := 8) rfl rfl ?_
                                                                        refine ev_iload_n (a := 25) (b := 9) rfl rfl ?_
                                                                        refine ev_iconst (a := 25) (b := 10) 1 rfl (by decide) ?_
                                                                        refine ev_iadd (a := 25) (b := 11) rfl ?_
                                                                        obtain ⟨h1379, h⟩ := ic_gdE h
                                                                        refine ev_xald (a := 25) (b := 12) (ic_xin h1379) rfl ?_
                                                                        refine ev_aload_n (a := 25) (b := 13) rfl rfl ?_
                                                                        refine ev_iload_n (a := 25) (b := 14) rfl rfl ?_
                                                                        refine ev_iconst (a := 25) (b := 15) 2 rfl (by decide) ?_
                                                                        refine ev_iadd (a := 25) (b := 16) rfl ?_
                                                                        obtain ⟨h1380, h⟩ := ic_gdE h
                                                                        refine ev_xald (a := 25) (b := 17) (ic_xin h1380) rfl ?_
                                                                        refine ev_aload_n (a := 25) (b := 18) rfl rfl ?_
                                                                        refine ev_iload_n (a := 25) (b := 19) rfl rfl ?_
                                                                        refine ev_iconst (a := 25) (b := 20) 3 rfl (by decide) ?_
                                                                        refine ev_iadd (a := 25) (b := 21) rfl ?_
                                                                        obtain ⟨h1381, h⟩ := ic_gdE h
                                                                        refine ev_xald (a := 25) (b := 22) (ic_xin h1381) rfl ?_
                                                                        refine ev_aload_n (a := 25) (b := 23) rfl rfl ?_
                                                                        refine ev_iload_n (a := 25) (b := 24) rfl rfl ?_
                                                                        refine ev_iconst (a := 25) (b := 25) 4 rfl (by decide) ?_
                                                                        refine ev_iadd (a := 25) (b := 26) rfl ?_
                                                                        obtain ⟨h1382, h⟩ := ic_gdE h
                                                                        refine ev_xald (a := 25) (b := 27) (ic_xin h1382) rfl ?_
                                                                        refine ev_aload_n (a := 25) (b := 28) rfl rfl ?_
                                                                        refine ev_iload_n (a := 25) (b := 29) rfl rfl ?_
                                                                        refine ev_iconst (a := 25) (b := 30) 5 rfl (by decide) ?_
                                                                        refine ev_iadd (a := 25) (b := 31) rfl ?_
                                                                        obtain ⟨h1383, h⟩ := ic_gdE h
                                                                        refine ev_xald (a := 26) (b := 0) (ic_xin h1383) rfl ?_
                                                                        obtain ⟨v1386, g1384, e1385, h⟩ := ic_b2E h
                                                                        refine ev_ivI (a := 26) (b := 1) [ic_I (g.1 40 (Int32.toNatClampNeg (x3 + 1))), ic_I (g.1 40 (Int32.toNatClampNeg (x3 + 2))), ic_I (g.1 40 (Int32.toNatClampNeg (x3 + 3))), ic_I (g.1 40 (Int32.toNatClampNeg (x3 + 4))), ic_I (g.1 40 (Int32.toNatClampNeg (x3 + 5)))] rfl okX6_copy rfl lmL_146 rfl (rc0) (Nat.le_of_ble_eq_true rfl) (eX6_copy e1385) (Nat.le_of_ble_eq_true rfl) rfl ?_
                                                                        refine ev_aload_n (a := 26) (b := 2) rfl rfl ?_
                                                                        refine ev_aload_n (a := 26) (b := 3) rfl rfl ?_
                                                                        refine ev_iload_n (a := 26) (b := 4) rfl rfl ?_
                                                                        refine ev_iconst (a := 26) (b := 5) 1 rfl (by decide) ?_
                                                                        refine ev_iadd (a := 26) (b := 6) rfl ?_
                                                                        obtain ⟨h1387, h⟩ := ic_gdE h
                                                                        refine ev_xald (a := 26) (b := 7) (ic_xin h1387) rfl ?_
                                                                        refine ev_aload_n (a := 26) (b := 8) rfl rfl ?_
                                                                        refine ev_iload_n (a := 26) (b := 9) rfl rfl ?_
                                                                        refine ev_iconst (a := 26) (b := 10) 2 rfl (by decide) ?_
                                                                        refine ev_iadd (a := 26) (b := 11) rfl ?_
                                                                        obtain ⟨h1388, h⟩ := ic_gdE h
                                                                        refine ev_xald (a := 26) (b := 12) (ic_xin h1388) rfl ?_
                                                                        refine ev_aload_n (a := 26) (b := 13) rfl rfl ?_
                                                                        refine ev_iload_n (a := 26) (b := 14) rfl rfl ?_
                                                                        refine ev_iconst (a := 26) (b := 15) 3 rfl (by decide) ?_
                                                                        refine ev_iadd (a := 26) (b := 16) rfl ?_
                                                                        obtain ⟨h1389, h⟩ := ic_gdE h
                                                                        refine ev_xald (a := 26) (b := 17) (ic_xin h1389) rfl ?_
                                                                        refine ev_aload_n (a := 26) (b := 18) rfl rfl ?_
                                                                        refine ev_iload_n (a := 26) (b := 19) rfl rfl ?_
                                                                        refine ev_iconst (a := 26) (b := 20) 4 rfl (by decide) ?_
                                                                        refine ev_iadd (a := 26) (b := 21) rfl ?_
                                                                        obtain ⟨h1390, h⟩ := ic_gdE h
                                                                        refine ev_xald (a := 26) (b := 22) (ic_xin h1390) rfl ?_
                                                                        refine ev_aload_n (a := 26) (b := 23) rfl rfl ?_
                                                                        refine ev_iload_n (a := 26) (b := 24) rfl rfl ?_
                                                                        refine ev_iconst (a := 26) (b := 25) 5 rfl (by decide) ?_
                                                                        refine ev_iadd (a := 26) (b := 26) rfl ?_
                                                                        obtain ⟨h1391, h⟩ := ic_gdE h
                                                                        refine ev_xald (a := 26) (b := 27) (ic_xin h1391) rfl ?_
                                                                        obtain ⟨v1394, g1392, e1393, h⟩ := ic_b2E h
                                                                        refine ev_ivI (a := 26) (b := 28) [ic_I (g1384.1 40 (Int32.toNatClampNeg (x3 + 1))), ic_I (g1384.1 40 (Int32.toNatClampNeg (x3 + 2))), ic_I (g1384.1 40 (Int32.toNatClampNeg (x3 + 3))), ic_I (g1384.1 40 (Int32.toNatClampNeg (x3 + 4))), ic_I (g1384.1 40 (Int32.toNatClampNeg (x3 + 5)))] rfl okX7_copy rfl lmL_150 rfl (rc16) (Nat.le_of_ble_eq_true rfl) (eX7_copy e1393) (Nat.le_of_ble_eq_true rfl) rfl ?_
                                                                        refine ev_iceq (a := 26) (b := 29) 1379 rfl rfl (fun c1395 => ?_) (fun c1395 => ?_)
                                                                        · have h := (if_pos c1395).symm.trans h
                                                                          refine ev_iinc (a := 29) (b := 25) (x3 + 6) [(0, ic_R 27 0 0), (1, ic_R 0 0 0), (2, ic_R 16 0 0), (3, ic_I (x3 + 6))] rfl rfl (by first | rfl | decide) (by decide) (And.intro (Or.inr (And.intro rfl rfl)) (And.intro (Or.inr (And.intro rfl rfl)) (And.intro (Or.inr (And.intro rfl rfl)) (And.intro (Or.inl rfl) trivial)))) ?_
                                                                          refine ev_goto (a := 29) (b := 26) 18 rfl rfl ?_
                                                                          refine ev_fw (lv' := [(0, ic_R 27 0 0), (1, ic_R 0 0 0), (2, ic_R 16 0 0), (3, ic_I (x3 + 6))]) ?_ (And.intro rfl (And.intro rfl (And.intro rfl (And.intro rfl trivial))))
                                                                          exact ih (x3 + 6) g1392 _ h _ _ hq
                                                                        · have h := (if_neg c1395).symm.trans h
                                                                          refine ev_iconst (a := 26) (b := 30) 0 rfl (by decide) ?_
                                                                          obtain rfl := ic_s1 h
                                                                          obtain ⟨rfl, rfl⟩ := hq
                                                                          exact ev_ireturn (a := 26) (b := 31) rfl rfl rfl
                                                                      · have h := (if_neg c1035).symm.trans h
                                                                        rcases Decidable.em (((g.1 40 (Int32.toNatClampNeg x3)) &&& 63) = 33) with c1036 | c1036
                                                                        · have h := (if_pos c1036).symm.trans h
                                                                          refine ev_tsw1 (a := 0) (b := 21) 33 (1215) 1248 rfl c1036 (by decide) (by decide) rfl rfl ?_
                                                                          refine ev_aload_n (a := 27) (b := 0) rfl rfl ?_
                                                                          refine ev_aload_n (a := 27) (b := 1) rfl rfl ?_
                                                                          refine ev_iload_n (a := 27) (b := 2) rfl rfl ?_
                                                                          refine ev_iconst (a := 27) (b := 3) 1 rfl (by decide) ?_
                                                                          refine ev_iadd (a := 27) (b := 4) rfl ?_
                                                                          obtain ⟨h1396, h⟩ := ic_gdE h
                                                                          refine ev_xald (a := 27) (b := 5) (ic_xin h1396) rfl ?_
                                                                          obtain ⟨v1399, g1397, e1398, h⟩ := ic_b2E h
                                                                          refine ev_ivI (a := 27) (b := 6) [ic_I (g.1 40 (Int32.toNatClampNeg (x3 + 1)))] rfl okX6_load rfl lmL_151 rfl (rc0) (Nat.le_of_ble_eq_true rfl) (eX6_load e1398) (Nat.le_of_ble_eq_true rfl) rfl ?_
                                                                          refine ev_aload_n (a := 27) (b := 7) rfl rfl ?_
                                                                          refine ev_aload_n (a := 27) (b := 8) rfl rfl ?_
                                                                          refine ev_iload_n (a := 27) (b := 9) rfl rfl ?_
                                                                          refine ev_iconst (a := 27) (b := 10) 1 rfl (by decide) ?_
                                                                          refine ev_iadd (a := 27) (b := 11) rfl ?_
                                                                          obtain ⟨h1400, h⟩ := ic_gdE h
                                                                          refine ev_xald (a := 27) (b := 12) (ic_xin h1400) rfl ?_
                                                                          obtain ⟨v1403, g1401, e1402, h⟩ := ic_b2E h
                                                                          refine ev_ivI (a := 27) (b := 13) [ic_I (g1397.1 40 (Int32.toNatClampNeg (x3 + 1)))] rfl okX7_load rfl lmL_154 rfl (rc16) (Nat.le_of_ble_eq_true rfl) (eX7_load e1402) (Nat.le_of_ble_eq_true rfl) rfl ?_
                                                                          refine ev_iceq (a := 27) (b := 14) 1379 rfl rfl (fun c1404 => ?_) (fun c1404 => ?_)
                                                                          · have h := (if_pos c1404).symm.trans h
                                                                            refine ev_iinc (a := 29) (b := 25) (x3 + 6) [(0, ic_R 27 0 0), (1, ic_R 0 0 0), (2, ic_R 16 0 0), (3, ic_I (x3 + 6))] rfl rfl (by first | rfl | decide) (by decide) (And.intro (Or.inr (And.intro rfl rfl)) (And.intro (Or.inr (And.intro rfl rfl)) (And.intro (Or.inr (And.intro rfl rfl)) (And.intro (Or.inl rfl) trivial)))) ?_
                                                                            refine ev_goto (a := 29) (b := 26) 18 rfl rfl ?_
                                                                            refine ev_fw (lv' := [(0, ic_R 27 0 0), (1, ic_R 0 0 0), (2, ic_R 16 0 0), (3, ic_I (x3 + 6))]) ?_ (And.intro rfl (And.intro rfl (And.intro rfl (And.intro rfl trivial))))
                                                                            exact ih (x3 + 6) g1401 _ h _ _ hq
                                                                          · have h := (if_neg c1404).symm.trans h
                                                                            refine ev_iconst (a := 27) (b := 15) 0 rfl (by decide) ?_
                                                                            obtain rfl := ic_s1 h
                                                                            obtain ⟨rfl, rfl⟩ := hq
                                                                            exact ev_ireturn (a := 27) (b := 16) rfl rfl rfl
                                                                        · have h := (if_neg c1036).symm.trans h
                                                                          rcases Decidable.em (((g.1 40 (Int32.toNatClampNeg x3)) &&& 63) = 34) with c1037 | c1037
                                                                          · have h := (if_pos c1037).symm.trans h
                                                                            refine ev_tsw1 (a := 0) (b := 21) 34 (1238) 1271 rfl c1037 (by decide) (by decide) rfl rfl ?_
                                                                            refine ev_aload_n (a := 27) (b := 17) rfl rfl ?_
                                                                            refine ev_aload_n (a := 27) (b := 18) rfl rfl ?_
                                                                            refine ev_iload_n (a := 27) (b := 19) rfl rfl ?_
                                                                            refine ev_iconst (a := 27) (b := 20) 1 rfl (by decide) ?_
                                                                            refine ev_iadd (a := 27) (b := 21) rfl ?_
                                                                            obtain ⟨h1405, h⟩ := ic_gdE h
                                                                            refine ev_xald (a := 27) (b := 22) (ic_xin h1405) rfl ?_
                                                                            obtain ⟨v1408, g1406, e1407, h⟩ := ic_b2E h
                                                                            refine ev_ivI (a := 27) (b := 23) [ic_I (g.1 40 (Int32.toNatClampNeg (x3 + 1)))] rfl okX6_judge rfl lmL_155 rfl (rc0) (Nat.le_of_ble_eq_true rfl) (eX6_judge e1407) (Nat.le_of_ble_eq_true rfl) rfl ?_
                                                                            refine ev_aload_n (a := 27) (b := 24) rfl rfl ?_
                                                                            refine ev_aload_n (a := 27) (b := 25) rfl rfl ?_
                                                                            refine ev_iload_n (a := 27) (b := 26) rfl rfl ?_
                                                                            refine ev_iconst (a := 27) (b := 27) 1 rfl (by decide) ?_
                                                                            refine ev_iadd (a := 27) (b := 28) rfl ?_
                                                                            obtain ⟨h1409, h⟩ := ic_gdE h
                                                                            refine ev_xald (a := 27) (b := 29) (ic_xin h1409) rfl ?_
                                                                            obtain ⟨v1412, g1410, e1411, h⟩ := ic_b2E h
                                                                            refine ev_ivI (a := 27) (b := 30) [ic_I (g1406.1 40 (Int32.toNatClampNeg (x3 + 1)))] rfl okX7_judge rfl lmL_158 rfl (rc16) (Nat.le_of_ble_eq_true rfl) (eX7_judge e1411) (Nat.le_of_ble_eq_true rfl) rfl ?_
                                                                            refine ev_iceq (a := 27) (b := 31) 1379 rfl rfl (fun c1413 => ?_) (fun c1413 => ?_)
                                                                            · have h := (if_pos c1413).symm.trans h
                                                                              refine ev_iinc (a := 29) (b := 25) (x3 + 6) [(0, ic_R 27 0 0), (1, ic_R 0 0 0), (2, ic_R 16 0 0), (3, ic_I (x3 + 6))] rfl rfl (by first | rfl | decide) (by decide) (And.intro (Or.inr (And.intro rfl rfl)) (And.intro (Or.inr (And.intro rfl rfl)) (And.intro (Or.inr (And.intro rfl rfl)) (And.intro (Or.inl rfl) trivial)))) ?_
                                                                              refine ev_goto (a := 29) (b := 26) 18 rfl rfl ?_
                                                                              refine ev_fw (lv' := [(0, ic_R 27 0 0), (1, ic_R 0 0 0), (2, ic_R 16 0 0), (3, ic_I (x3 + 6))]) ?_ (And.intro rfl (And.intro rfl (And.intro rfl (And.intro rfl trivial))))
                                                                              exact ih (x3 + 6) g1410 _ h _ _ hq
                                                                            · have h := (if_neg c1413).symm.trans h
                                                                              refine ev_iconst (a := 28) (b := 0) 0 rfl (by decide) ?_
                                                                              obtain rfl := ic_s1 h
                                                                              obtain ⟨rfl, rfl⟩ := hq
                                                                              exact ev_ireturn (a := 28) (b := 1) rfl rfl rfl
                                                                          · have h := (if_neg c1037).symm.trans h
                                                                            rcases Decidable.em (((g.1 40 (Int32.toNatClampNeg x3)) &&& 63) = 35) with c1038 | c1038
                                                                            · have h := (if_pos c1038).symm.trans h
                                                                              refine ev_tsw1 (a := 0) (b := 21) 35 (1261) 1294 rfl c1038 (by decide) (by decide) rfl rfl ?_
                                                                              refine ev_aload_n (a := 28) (b := 2) rfl rfl ?_
                                                                              obtain ⟨v1416, g1414, e1415, h⟩ := ic_b2E h
                                                                              refine ev_ivI (a := 28) (b := 3) [] rfl okX6_image rfl lmL_159 rfl (rc0) (Nat.le_of_ble_eq_true rfl) (eX6_image e1415) (Nat.le_of_ble_eq_true rfl) rfl ?_
                                                                              refine ev_aload_n (a := 28) (b := 4) rfl rfl ?_
                                                                              obtain ⟨v1419, g1417, e1418, h⟩ := ic_b2E h
                                                                              refine ev_ivI (a := 28) (b := 5) [] rfl okX7_image rfl lmL_162 rfl (rc16) (Nat.le_of_ble_eq_true rfl) (eX7_image e1418) (Nat.le_of_ble_eq_true rfl) rfl ?_
                                                                              refine ev_iceq (a := 28) (b := 6) 1379 rfl rfl (fun c1420 => ?_) (fun c1420 => ?_)
                                                                              · have h := (if_pos c1420).symm.trans h
                                                                                refine ev_iinc (a := 29) (b := 25) (x3 + 6) [(0, ic_R 27 0 0), (1, ic_R 0 0 0), (2, ic_R 16 0 0), (3, ic_I (x3 + 6))] rfl rfl (by first | rfl | decide) (by decide) (And.intro (Or.inr (And.intro rfl rfl)) (And.intro (Or.inr (And.intro rfl rfl)) (And.intro (Or.inr (And.intro rfl rfl)) (And.intro (Or.inl rfl) trivial)))) ?_
                                                                                refine ev_goto (a := 29) (b := 26) 18 rfl rfl ?_
                                                                                refine ev_fw (lv' := [(0, ic_R 27 0 0), (1, ic_R 0 0 0), (2, ic_R 16 0 0), (3, ic_I (x3 + 6))]) ?_ (And.intro rfl (And.intro rfl (And.intro rfl (And.intro rfl trivial))))
                                                                                exact ih (x3 + 6) g1417 _ h _ _ hq
                                                                              · have h := (if_neg c1420).symm.trans h
                                                                                refine ev_iconst (a := 28) (b := 7) 0 rfl (by decide) ?_
                                                                                obtain rfl := ic_s1 h
                                                                                obtain ⟨rfl, rfl⟩ := hq
                                                                                exact ev_ireturn (a := 28) (b := 8) rfl rfl rfl
                                                                            · have h := (if_neg c1038).symm.trans h
                                                                              rcases Decidable.em (((g.1 40 (Int32.toNatClampNeg x3)) &&& 63) = 36) with c1039 | c1039
                                                                              · have h := (if_pos c1039).symm.trans h
                                                                                refine ev_tsw1 (a := 0) (b := 21) 36 (1274) 1307 rfl c1039 (by decide) (by decide) rfl rfl ?_
                                                                                refine ev_aload_n (a := 28) (b := 9) rfl rfl ?_
                                                                                obtain ⟨v1423, g1421, e1422, h⟩ := ic_b2E h
                                                                                refine ev_ivI (a := 28) (b := 10) [] rfl okX6_undo rfl lmL_163 rfl (rc0) (Nat.le_of_ble_eq_true rfl) (eX6_undo e1422) (Nat.le_of_ble_eq_true rfl) rfl ?_
                                                                                refine ev_aload_n (a := 28) (b := 11) rfl rfl ?_
                                                                                obtain ⟨v1426, g1424, e1425, h⟩ := ic_b2E h
                                                                                refine ev_ivI (a := 28) (b := 12) [] rfl okX7_undo rfl lmL_166 rfl (rc16) (Nat.le_of_ble_eq_true rfl) (eX7_undo e1425) (Nat.le_of_ble_eq_true rfl) rfl ?_
                                                                                refine ev_iceq (a := 28) (b := 13) 1379 rfl rfl (fun c1427 => ?_) (fun c1427 => ?_)
                                                                                · have h := (if_pos c1427).symm.trans h
                                                                                  refine ev_iinc (a := 29) (b := 25) (x3 + 6) [(0, ic_R 27 0 0), (1, ic_R 0 0 0), (2, ic_R 16 0 0), (3, ic_I (x3 + 6))] rfl rfl (by first | rfl | decide) (by decide) (And.intro (Or.inr (And.intro rfl rfl)) (And.intro (Or.inr (And.intro rfl rfl)) (And.intro (Or.inr (And.intro rfl rfl)) (And.intro (Or.inl rfl) trivial)))) ?_
                                                                                  refine ev_goto (a := 29) (b := 26) 18 rfl rfl ?_
                                                                                  refine ev_fw (lv' := [(0, ic_R 27 0 0), (1, ic_R 0 0 0), (2, ic_R 16 0 0), (3, ic_I (x3 + 6))]) ?_ (And.intro rfl (And.intro rfl (And.intro rfl (And.intro rfl trivial))))
                                                                                  exact ih (x3 + 6) g1424 _ h _ _ hq
                                                                                · have h := (if_neg c1427).symm.trans h
                                                                                  refine ev_iconst (a := 28) (b := 14) 0 rfl (by decide) ?_
                                                                                  obtain rfl := ic_s1 h
                                                                                  obtain ⟨rfl, rfl⟩ := hq
                                                                                  exact ev_ireturn (a := 28) (b := 15) rfl rfl rfl
                                                                              · have h := (if_neg c1039).symm.trans h
                                                                                rcases Decidable.em (((g.1 40 (Int32.toNatClampNeg x3)) &&& 63) = 37) with c1040 | c1040
                                                                                · have h := (if_pos c1040).symm.trans h
                                                                                  refine ev_tsw1 (a := 0) (b := 21) 37 (1287) 1320 rfl c1040 (by decide) (by decide) rfl rfl ?_
                                                                                  refine ev_aload_n (a := 28) (b := 16) rfl rfl ?_
                                                                                  obtain ⟨v1430, g1428, e1429, h⟩ := ic_b2E h
                                                                                  refine ev_ivI (a := 28) (b := 17) [] rfl okX6_tear rfl lmL_167 rfl (rc0) (Nat.le_of_ble_eq_true rfl) (eX6_tear e1429) (Nat.le_of_ble_eq_true rfl) rfl ?_
                                                                                  refine ev_aload_n (a := 28) (b := 18) rfl rfl ?_
                                                                                  obtain ⟨v1433, g1431, e1432, h⟩ := ic_b2E h
                                                                                  refine ev_ivI (a := 28) (b := 19) [] rfl okX7_tear rfl lmL_170 rfl (rc16) (Nat.le_of_ble_eq_true rfl) (eX7_tear e1432) (Nat.le_of_ble_eq_true rfl) rfl ?_
                                                                                  refine ev_iceq (a := 28) (b := 20) 1379 rfl rfl (fun c1434 => ?_) (fun c1434 => ?_)
                                                                                  · have h := (if_pos c1434).symm.trans h
                                                                                    refine ev_iinc (a := 29) (b := 25) (x3 + 6) [(0, ic_R 27 0 0), (1, ic_R 0 0 0), (2, ic_R 16 0 0), (3, ic_I (x3 + 6))] rfl rfl (by first | rfl | decide) (by decide) (And.intro (Or.inr (And.intro rfl rfl)) (And.intro (Or.inr (And.intro rfl rfl)) (And.intro (Or.inr (And.intro rfl rfl)) (And.intro (Or.inl rfl) trivial)))) ?_
                                                                                    refine ev_goto (a := 29) (b := 26) 18 rfl rfl ?_
                                                                                    refine ev_fw (lv' := [(0, ic_R 27 0 0), (1, ic_R 0 0 0), (2, ic_R 16 0 0), (3, ic_I (x3 + 6))]) ?_ (And.intro rfl (And.intro rfl (And.intro rfl (And.intro rfl trivial))))
                                                                                    exact ih (x3 + 6) g1431 _ h _ _ hq
                                                                                  · have h := (if_neg c1434).symm.trans h
                                                                                    refine ev_iconst (a := 28) (b := 21) 0 rfl (by decide) ?_
                                                                                    obtain rfl := ic_s1 h
                                                                                    obtain ⟨rfl, rfl⟩ := hq
                                                                                    exact ev_ireturn (a := 28) (b := 22) rfl rfl rfl
                                                                                · have h := (if_neg c1040).symm.trans h
                                                                                  rcases Decidable.em (((g.1 40 (Int32.toNatClampNeg x3)) &&& 63) = 38) with c1041 | c1041
                                                                                  · have h := (if_pos c1041).symm.trans h
                                                                                    refine ev_tsw1 (a := 0) (b := 21) 38 (1300) 1333 rfl c1041 (by decide) (by decide) rfl rfl ?_
                                                                                    refine ev_aload_n (a := 28) (b := 23) rfl rfl ?_
                                                                                    refine ev_aload_n (a := 28) (b := 24) rfl rfl ?_
                                                                                    refine ev_iload_n (a := 28) (b := 25) rfl rfl ?_
                                                                                    refine ev_iconst (a := 28) (b := 26) 1 rfl (by decide) ?_
                                                                                    refine ev_iadd (a := 28) (b := 27) rfl ?_
                                                                                    obtain ⟨h1435, h⟩ := ic_gdE h
                                                                                    refine ev_xald (a := 28) (b := 28) (ic_xin h1435) rfl ?_
                                                                                    obtain ⟨v1438, g1436, e1437, h⟩ := ic_b2E h
                                                                                    refine ev_ivI (a := 28) (b := 29) [ic_I (g.1 40 (Int32.toNatClampNeg (x3 + 1)))] rfl okX6_count rfl lmL_171 rfl (rc0) (Nat.le_of_ble_eq_true rfl) (eX6_count e1437) (Nat.le_of_ble_eq_true rfl) rfl ?_
                                                                                    refine ev_aload_n (a := 28) (b := 30) rfl rfl ?_
                                                                                    refine ev_aload_n (a := 28) (b := 31) rfl rfl ?_
                                                                                    refine ev_iload_n (a := 29) (b := 0) rfl rfl ?_
                                                                                    refine ev_iconst (a := 29) (b := 1) 1 rfl (by decide) ?_
                                                                                    refine ev_iadd (a := 29) (b := 2) rfl ?_
                                                                                    obtain ⟨h1439, h⟩ := ic_gdE h
                                                                                    refine ev_xald (a := 29) (b := 3) (ic_xin h1439) rfl ?_
                                                                                    obtain ⟨v1442, g1440, e1441, h⟩ := ic_b2E h
                                                                                    refine ev_ivI (a := 29) (b := 4) [ic_I (g1436.1 40 (Int32.toNatClampNeg (x3 + 1)))] rfl okX7_count rfl lmL_174 rfl (rc16) (Nat.le_of_ble_eq_true rfl) (eX7_count e1441) (Nat.le_of_ble_eq_true rfl) rfl ?_
                                                                                    refine ev_iceq (a := 29) (b := 5) 1379 rfl rfl (fun c1443 => ?_) (fun c1443 => ?_)
                                                                                    · have h := (if_pos c1443).symm.trans h
                                                                                      refine ev_iinc (a := 29) (b := 25) (x3 + 6) [(0, ic_R 27 0 0), (1, ic_R 0 0 0), (2, ic_R 16 0 0), (3, ic_I (x3 + 6))] rfl rfl (by first | rfl | decide) (by decide) (And.intro (Or.inr (And.intro rfl rfl)) (And.intro (Or.inr (And.intro rfl rfl)) (And.intro (Or.inr (And.intro rfl rfl)) (And.intro (Or.inl rfl) trivial)))) ?_
                                                                                      refine ev_goto (a := 29) (b := 26) 18 rfl rfl ?_
                                                                                      refine ev_fw (lv' := [(0, ic_R 27 0 0), (1, ic_R 0 0 0), (2, ic_R 16 0 0), (3, ic_I (x3 + 6))]) ?_ (And.intro rfl (And.intro rfl (And.intro rfl (And.intro rfl trivial))))
                                                                                      exact ih (x3 + 6) g1440 _ h _ _ hq
                                                                                    · have h := (if_neg c1443).symm.trans h
                                                                                      refine ev_iconst (a := 29) (b := 6) 0 rfl (by decide) ?_
                                                                                      obtain rfl := ic_s1 h
                                                                                      obtain ⟨rfl, rfl⟩ := hq
                                                                                      exact ev_ireturn (a := 29) (b := 7) rfl rfl rfl
                                                                                  · have h := (if_neg c1041).symm.trans h
                                                                                    rcases Decidable.em (((g.1 40 (Int32.toNatClampNeg x3)) &&& 63) = 39) with c1042 | c1042
                                                                                    · have h := (if_pos c1042).symm.trans h
                                                                                      refine ev_tsw1 (a := 0) (b := 21) 39 (1323) 1356 rfl c1042 (by decide) (by decide) rfl rfl ?_
                                                                                      refine ev_aload_n (a := 29) (b := 8) rfl rfl ?_
                                                                                      refine ev_aload_n (a := 29) (b := 9) rfl rfl ?_
                                                                                      refine ev_iload_n (a := 29) (b := 10) rfl rfl ?_
                                                                                      refine ev_iconst (a := 29) (b := 11) 1 rfl (by decide) ?_
                                                                                      refine ev_iadd (a := 29) (b := 12) rfl ?_
                                                                                      obtain ⟨h1444, h⟩ := ic_gdE h
                                                                                      refine ev_xald (a := 29) (b := 13) (ic_xin h1444) rfl ?_
                                                                                      obtain ⟨v1447, g1445, e1446, h⟩ := ic_b2E h
                                                                                      refine ev_ivI (a := 29) (b := 14) [ic_I (g.1 40 (Int32.toNatClampNeg (x3 + 1)))] rfl okX6_status rfl lmL_175 rfl (rc0) (Nat.le_of_ble_eq_true rfl) (eX6_status e1446) (Nat.le_of_ble_eq_true rfl) rfl ?_
                                                                                      refine ev_aload_n (a := 29) (b := 15) rfl rfl ?_
                                                                                      refine ev_aload_n (a := 29) (b := 16) rfl rfl ?_
                                                                                      refine ev_iload_n (a := 29) (b := 17) rfl rfl ?_
                                                                                      refine ev_iconst (a := 29) (b := 18) 1 rfl (by decide) ?_
                                                                                      refine ev_iadd (a := 29) (b := 19) rfl ?_
                                                                                      obtain ⟨h1448, h⟩ := ic_gdE h
                                                                                      refine ev_xald (a := 29) (b := 20) (ic_xin h1448) rfl ?_
                                                                                      obtain ⟨v1451, g1449, e1450, h⟩ := ic_b2E h
                                                                                      refine ev_ivI (a := 29) (b := 21) [ic_I (g1445.1 40 (Int32.toNatClampNeg (x3 + 1)))] rfl okX7_status rfl lmL_178 rfl (rc16) (Nat.le_of_ble_eq_true rfl) (eX7_status e1450) (Nat.le_of_ble_eq_true rfl) rfl ?_
                                                                                      refine ev_iceq (a := 29) (b := 22) 1379 rfl rfl (fun c1452 => ?_) (fun c1452 => ?_)
                                                                                      · have h := (if_pos c1452).symm.trans h
                                                                                        refine ev_iinc (a := 29) (b := 25) (x3 + 6) [(0, ic_R 27 0 0), (1, ic_R 0 0 0), (2, ic_R 16 0 0), (3, ic_I (x3 + 6))] rfl rfl (by first | rfl | decide) (by decide) (And.intro (Or.inr (And.intro rfl rfl)) (And.intro (Or.inr (And.intro rfl rfl)) (And.intro (Or.inr (And.intro rfl rfl)) (And.intro (Or.inl rfl) trivial)))) ?_
                                                                                        refine ev_goto (a := 29) (b := 26) 18 rfl rfl ?_
                                                                                        refine ev_fw (lv' := [(0, ic_R 27 0 0), (1, ic_R 0 0 0), (2, ic_R 16 0 0), (3, ic_I (x3 + 6))]) ?_ (And.intro rfl (And.intro rfl (And.intro rfl (And.intro rfl trivial))))
                                                                                        exact ih (x3 + 6) g1449 _ h _ _ hq
                                                                                      · have h := (if_neg c1452).symm.trans h
                                                                                        refine ev_iconst (a := 29) (b := 23) 0 rfl (by decide) ?_
                                                                                        obtain rfl := ic_s1 h
                                                                                        obtain ⟨rfl, rfl⟩ := hq
                                                                                        exact ev_ireturn (a := 29) (b := 24) rfl rfl rfl
                                                                                    · have h := (if_neg c1042).symm.trans h
                                                                                      refine ev_tsw0 (a := 0) (b := 21) [0, 1, 2, 3, 4, 5, 6, 7, 8, 9, 10, 11, 12, 13, 14, 15, 16, 17, 18, 19, 20, 21, 22, 23, 24, 25, 26, 27, 28, 29, 30, 31, 32, 33, 34, 35, 36, 37, 38, 39] 1379 rfl (List.forall_mem_cons.mpr ⟨c1003, List.forall_mem_cons.mpr ⟨c1004, List.forall_mem_cons.mpr ⟨c1005, List.forall_mem_cons.mpr ⟨c1006, List.forall_mem_cons.mpr ⟨c1007, List.forall_mem_cons.mpr ⟨c1008, List.forall_mem_cons.mpr ⟨c1009, List.forall_mem_cons.mpr ⟨c1010, List.forall_mem_cons.mpr ⟨c1011, List.forall_mem_cons.mpr ⟨c1012, List.forall_mem_cons.mpr ⟨c1013, List.forall_mem_cons.mpr ⟨c1014, List.forall_mem_cons.mpr ⟨c1015, List.forall_mem_cons.mpr ⟨c1016, List.forall_mem_cons.mpr ⟨c1017, List.forall_mem_cons.mpr ⟨c1018, List.forall_mem_cons.mpr ⟨c1019, List.forall_mem_cons.mpr ⟨c1020, List.forall_mem_cons.mpr ⟨c1021, List.forall_mem_cons.mpr ⟨c1022, List.forall_mem_cons.mpr ⟨c1023, List.forall_mem_cons.mpr ⟨c1024, List.forall_mem_cons.mpr ⟨c1025, List.forall_mem_cons.mpr ⟨c1026, List.forall_mem_cons.mpr ⟨c1027, List.forall_mem_cons.mpr ⟨c1028, List.forall_mem_cons.mpr ⟨c1029, List.forall_mem_cons.mpr ⟨c1030, List.forall_mem_cons.mpr ⟨c1031, List.forall_mem_cons.mpr ⟨c1032, List.forall_mem_cons.mpr ⟨c1033, List.forall_mem_cons.mpr ⟨c1034, List.forall_mem_cons.mpr ⟨c1035, List.forall_mem_cons.mpr ⟨c1036, List.forall_mem_cons.mpr ⟨c1037, List.forall_mem_cons.mpr ⟨c1038, List.forall_mem_cons.mpr ⟨c1039, List.forall_mem_cons.mpr ⟨c1040, List.forall_mem_cons.mpr ⟨c1041, List.forall_mem_cons.mpr ⟨c1042, fun _ hh => absurd hh List.not_mem_nil⟩⟩⟩⟩⟩⟩⟩⟩⟩⟩⟩⟩⟩⟩⟩⟩⟩⟩⟩⟩⟩⟩⟩⟩⟩⟩⟩⟩⟩⟩⟩⟩⟩⟩⟩⟩⟩⟩⟩⟩) (by decide) (by decide) rfl ?_
                                                                                      refine ev_iinc (a := 29) (b := 25) (x3 + 6) [(0, ic_R 27 0 0), (1, ic_R 0 0 0), (2, ic_R 16 0 0), (3, ic_I (x3 + 6))] rfl rfl (by first | rfl | decide) (by decide) (And.intro (Or.inr (And.intro rfl rfl)) (And.intro (Or.inr (And.intro rfl rfl)) (And.intro (Or.inr (And.intro rfl rfl)) (And.intro (Or.inl rfl) trivial)))) ?_
                                                                                      refine ev_goto (a := 29) (b := 26) 18 rfl rfl ?_
                                                                                      refine ev_fw (lv' := [(0, ic_R 27 0 0), (1, ic_R 0 0 0), (2, ic_R 16 0 0), (3, ic_I (x3 + 6))]) ?_ (And.intro rfl (And.intro rfl (And.intro rfl (And.intro rfl trivial))))
                                                                                      exact ih (x3 + 6) g _ h _ _ hq
set_option maxRecDepth 20000 in
theorem eL_law {g g' : ic_S} {v : Int32} (h : fL_law g = some (v, g')) : ic_Ev mL_law 16 [(0, ic_R 27 0 0), (1, ic_R 0 0 0), (2, ic_R 16 0 0)] [] g (some (ic_I v)) g' := by
  unfold fL_law at h
  refine ev_iconst (a := 0) (b := 8) 0 rfl (by decide) ?_
  refine ev_istore_n (a := 0) (b := 9) [(0, ic_R 27 0 0), (1, ic_R 0 0 0), (2, ic_R 16 0 0), (3, ic_I 0)] rfl (by decide) (And.intro (Or.inr (And.intro rfl rfl)) (And.intro (Or.inr (And.intro rfl rfl)) (And.intro (Or.inr (And.intro rfl rfl)) (And.intro (Or.inl rfl) trivial)))) ?_
  refine ev_fw (lv' := [(0, ic_R 27 0 0), (1, ic_R 0 0 0), (2, ic_R 16 0 0), (3, ic_I 0)]) ?_ (And.intro rfl (And.intro rfl (And.intro rfl (And.intro rfl trivial))))
  rcases ic_bsE h with e3 | ⟨y1, g2, e3, h⟩
  · exact tL_law_18  1000 0 g _ e3 _ _ ⟨rfl, rfl⟩
  · refine tL_law_18  1000 0 g _ e3 _ _ ?_
    change ic_Ev mL_law 1385 [] [] g2 _ _
    refine ev_iconst (a := 29) (b := 27) 1 rfl (by decide) ?_
    obtain ⟨rfl, rfl⟩ := ic_s2 h
    exact ev_ireturn (a := 29) (b := 28) rfl rfl rfl
