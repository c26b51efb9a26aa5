section Zb7
variable {Γ : zC} {κ : lX} {L : Nat} {xs : Nat → Int32} {i : Int32} {M : zM}
theorem lc_price {n : Nat} (C : lH Γ κ L xs) (hi : i = iz (n : Int)) (hL : n + 6 ≤ L) (hI : Inv M) (h : ∀ M2, Inv M2 → lJ Γ κ i 1698 [] M2) : lJ Γ κ i 970 [] M := by
  refine l_a1 (pc := 970) (pc' := 971) C dLw_970 rfl ?_
  refine l_int (pc := 971) (pc' := 976) (j := 1) C hi (by omega) (by decide) dLw_971 dLw_972 dLw_973 dLw_974 dLw_975 rfl ?_
  refine l_int (pc := 976) (pc' := 981) (j := 2) C hi (by omega) (by decide) dLw_976 dLw_977 dLw_978 dLw_979 dLw_980 rfl ?_
  refine l_int (pc := 981) (pc' := 986) (j := 3) C hi (by omega) (by decide) dLw_981 dLw_982 dLw_983 dLw_984 dLw_985 rfl ?_
  refine l_call (μ := 128) (cN := 9) (idx := 101) (pc := 986) (pc' := 989) (as := [zi (xs (n + 1)), zi (xs (n + 2)), zi (xs (n + 3))]) (rest := []) C rfl rfl rfl (by decide +kernel) (by decide) (zok_is (l := [xs (n + 1), xs (n + 2), xs (n + 3)])) rfl (zi4 164 (by decide +kernel) (by decide +kernel)) ⟨by decide +kernel, by decide +kernel⟩ (by decide) rfl dLw_986 rfl (both_price  M (fun o M1 => ∃ r, o = some r ∧ kdV 0 r ∧ zEv Γ 221 (zo 10 0 0 :: [zi (xs (n + 1)), zi (xs (n + 2)), zi (xs (n + 3))]) M1 (fun o M2 => o = some r ∧ Inv M2)) hI (fun r M1 h1 h2 => ⟨r, rfl, h1, h2⟩)) (fun o M1 hq => ?_)
  obtain ⟨r, rfl, ⟨v, rfl⟩, hE⟩ := hq
  refine l_a2 (pc := 989) (pc' := 990) C dLw_989 rfl ?_
  refine l_int (pc := 990) (pc' := 995) (j := 1) C hi (by omega) (by decide) dLw_990 dLw_991 dLw_992 dLw_993 dLw_994 rfl ?_
  refine l_int (pc := 995) (pc' := 1000) (j := 2) C hi (by omega) (by decide) dLw_995 dLw_996 dLw_997 dLw_998 dLw_999 rfl ?_
  refine l_int (pc := 1000) (pc' := 1005) (j := 3) C hi (by omega) (by decide) dLw_1000 dLw_1001 dLw_1002 dLw_1003 dLw_1004 rfl ?_
  refine l_call (μ := 221) (cN := 10) (idx := 104) (pc := 1005) (pc' := 1008) (as := [zi (xs (n + 1)), zi (xs (n + 2)), zi (xs (n + 3))]) (rest := [.int v]) C rfl rfl rfl (by decide +kernel) (by decide) (zok_is (l := [xs (n + 1), xs (n + 2), xs (n + 3)])) rfl (zi7 88 (by decide +kernel) (by decide +kernel)) ⟨by decide +kernel, by decide +kernel⟩ (by show 1 ≤ 8; decide) rfl dLw_1005 rfl hE (fun o M2 hq => ?_)
  obtain ⟨rfl, hI2⟩ := hq
  exact l_eqI (pc := 1008) (tgt := 1698) C dLw_1008 rfl (h M2 hI2)
theorem lc_judged {n : Nat} (C : lH Γ κ L xs) (hi : i = iz (n : Int)) (hL : n + 6 ≤ L) (hI : Inv M) (h : ∀ M2, Inv M2 → lJ Γ κ i 1698 [] M2) : lJ Γ κ i 1013 [] M := by
  refine l_a1 (pc := 1013) (pc' := 1014) C dLw_1013 rfl ?_
  refine l_int (pc := 1014) (pc' := 1019) (j := 1) C hi (by omega) (by decide) dLw_1014 dLw_1015 dLw_1016 dLw_1017 dLw_1018 rfl ?_
  refine l_call (μ := 129) (cN := 9) (idx := 105) (pc := 1019) (pc' := 1022) (as := [zi (xs (n + 1))]) (rest := []) C rfl rfl rfl (by decide +kernel) (by decide) (zok_is (l := [xs (n + 1)])) rfl (zi4 168 (by decide +kernel) (by decide +kernel)) ⟨by decide +kernel, by decide +kernel⟩ (by decide) rfl dLw_1019 rfl (both_judged  M (fun o M1 => ∃ r, o = some r ∧ kdV 0 r ∧ zEv Γ 222 (zo 10 0 0 :: [zi (xs (n + 1))]) M1 (fun o M2 => o = some r ∧ Inv M2)) hI (fun r M1 h1 h2 => ⟨r, rfl, h1, h2⟩)) (fun o M1 hq => ?_)
  obtain ⟨r, rfl, ⟨v, rfl⟩, hE⟩ := hq
  refine l_a2 (pc := 1022) (pc' := 1023) C dLw_1022 rfl ?_
  refine l_int (pc := 1023) (pc' := 1028) (j := 1) C hi (by omega) (by decide) dLw_1023 dLw_1024 dLw_1025 dLw_1026 dLw_1027 rfl ?_
  refine l_call (μ := 222) (cN := 10) (idx := 108) (pc := 1028) (pc' := 1031) (as := [zi (xs (n + 1))]) (rest := [.int v]) C rfl rfl rfl (by decide +kernel) (by decide) (zok_is (l := [xs (n + 1)])) rfl (zi7 92 (by decide +kernel) (by decide +kernel)) ⟨by decide +kernel, by decide +kernel⟩ (by show 1 ≤ 8; decide) rfl dLw_1028 rfl hE (fun o M2 hq => ?_)
  obtain ⟨rfl, hI2⟩ := hq
  exact l_eqI (pc := 1031) (tgt := 1698) C dLw_1031 rfl (h M2 hI2)
theorem lc_parts {n : Nat} (C : lH Γ κ L xs) (hi : i = iz (n : Int)) (hL : n + 6 ≤ L) (hI : Inv M) (h : ∀ M2, Inv M2 → lJ Γ κ i 1698 [] M2) : lJ Γ κ i 1036 [] M := by
  refine l_a1 (pc := 1036) (pc' := 1037) C dLw_1036 rfl ?_
  refine l_int (pc := 1037) (pc' := 1042) (j := 1) C hi (by omega) (by decide) dLw_1037 dLw_1038 dLw_1039 dLw_1040 dLw_1041 rfl ?_
  refine l_call (μ := 130) (cN := 9) (idx := 109) (pc := 1042) (pc' := 1045) (as := [zi (xs (n + 1))]) (rest := []) C rfl rfl rfl (by decide +kernel) (by decide) (zok_is (l := [xs (n + 1)])) rfl (zi4 179 (by decide +kernel) (by decide +kernel)) ⟨by decide +kernel, by decide +kernel⟩ (by decide) rfl dLw_1042 rfl (both_parts  M (fun o M1 => ∃ r, o = some r ∧ kdV 1 r ∧ zEv Γ 224 (zo 10 0 0 :: [zi (xs (n + 1))]) M1 (fun o M2 => o = some r ∧ Inv M2)) hI (fun r M1 h1 h2 => ⟨r, rfl, h1, h2⟩)) (fun o M1 hq => ?_)
  obtain ⟨r, rfl, ⟨v, rfl⟩, hE⟩ := hq
  refine l_a2 (pc := 1045) (pc' := 1046) C dLw_1045 rfl ?_
  refine l_int (pc := 1046) (pc' := 1051) (j := 1) C hi (by omega) (by decide) dLw_1046 dLw_1047 dLw_1048 dLw_1049 dLw_1050 rfl ?_
  refine l_call (μ := 224) (cN := 10) (idx := 113) (pc := 1051) (pc' := 1054) (as := [zi (xs (n + 1))]) (rest := [.long v]) C rfl rfl rfl (by decide +kernel) (by decide) (zok_is (l := [xs (n + 1)])) rfl (zi7 96 (by decide +kernel) (by decide +kernel)) ⟨by decide +kernel, by decide +kernel⟩ (by show 2 ≤ 8; decide) rfl dLw_1051 rfl hE (fun o M2 hq => ?_)
  obtain ⟨rfl, hI2⟩ := hq
  exact l_eqL (pc := 1054) (tgt := 1698) C dLw_1054 dLw_1055 rfl (h M2 hI2)
theorem lc_taken {n : Nat} (C : lH Γ κ L xs) (hi : i = iz (n : Int)) (hL : n + 6 ≤ L) (hI : Inv M) (h : ∀ M2, Inv M2 → lJ Γ κ i 1698 [] M2) : lJ Γ κ i 1060 [] M := by
  refine l_a1 (pc := 1060) (pc' := 1061) C dLw_1060 rfl ?_
  refine l_int (pc := 1061) (pc' := 1066) (j := 1) C hi (by omega) (by decide) dLw_1061 dLw_1062 dLw_1063 dLw_1064 dLw_1065 rfl ?_
  refine l_int (pc := 1066) (pc' := 1071) (j := 2) C hi (by omega) (by decide) dLw_1066 dLw_1067 dLw_1068 dLw_1069 dLw_1070 rfl ?_
  refine l_call (μ := 131) (cN := 9) (idx := 114) (pc := 1071) (pc' := 1074) (as := [zi (xs (n + 1)), zi (xs (n + 2))]) (rest := []) C rfl rfl rfl (by decide +kernel) (by decide) (zok_is (l := [xs (n + 1), xs (n + 2)])) rfl (zi4 188 (by decide +kernel) (by decide +kernel)) ⟨by decide +kernel, by decide +kernel⟩ (by decide) rfl dLw_1071 rfl (both_taken  M (fun o M1 => ∃ r, o = some r ∧ kdV 1 r ∧ zEv Γ 226 (zo 10 0 0 :: [zi (xs (n + 1)), zi (xs (n + 2))]) M1 (fun o M2 => o = some r ∧ Inv M2)) hI (fun r M1 h1 h2 => ⟨r, rfl, h1, h2⟩)) (fun o M1 hq => ?_)
  obtain ⟨r, rfl, ⟨v, rfl⟩, hE⟩ := hq
  refine l_a2 (pc := 1074) (pc' := 1075) C dLw_1074 rfl ?_
  refine l_int (pc := 1075) (pc' := 1080) (j := 1) C hi (by omega) (by decide) dLw_1075 dLw_1076 dLw_1077 dLw_1078 dLw_1079 rfl ?_
  refine l_int (pc := 1080) (pc' := 1085) (j := 2) C hi (by omega) (by decide) dLw_1080 dLw_1081 dLw_1082 dLw_1083 dLw_1084 rfl ?_
  refine l_call (μ := 226) (cN := 10) (idx := 118) (pc := 1085) (pc' := 1088) (as := [zi (xs (n + 1)), zi (xs (n + 2))]) (rest := [.long v]) C rfl rfl rfl (by decide +kernel) (by decide) (zok_is (l := [xs (n + 1), xs (n + 2)])) rfl (zi7 105 (by decide +kernel) (by decide +kernel)) ⟨by decide +kernel, by decide +kernel⟩ (by show 2 ≤ 8; decide) rfl dLw_1085 rfl hE (fun o M2 hq => ?_)
  obtain ⟨rfl, hI2⟩ := hq
  exact l_eqL (pc := 1088) (tgt := 1698) C dLw_1088 dLw_1089 rfl (h M2 hI2)
theorem lc_high {n : Nat} (C : lH Γ κ L xs) (hi : i = iz (n : Int)) (hL : n + 6 ≤ L) (hI : Inv M) (h : ∀ M2, Inv M2 → lJ Γ κ i 1698 [] M2) : lJ Γ κ i 1094 [] M := by
  refine l_a1 (pc := 1094) (pc' := 1095) C dLw_1094 rfl ?_
  refine l_int (pc := 1095) (pc' := 1100) (j := 1) C hi (by omega) (by decide) dLw_1095 dLw_1096 dLw_1097 dLw_1098 dLw_1099 rfl ?_
  refine l_call (μ := 132) (cN := 9) (idx := 119) (pc := 1100) (pc' := 1103) (as := [zi (xs (n + 1))]) (rest := []) C rfl rfl rfl (by decide +kernel) (by decide) (zok_is (l := [xs (n + 1)])) rfl (zi4 215 (by decide +kernel) (by decide +kernel)) ⟨by decide +kernel, by decide +kernel⟩ (by decide) rfl dLw_1100 rfl (both_high  M (fun o M1 => ∃ r, o = some r ∧ kdV 0 r ∧ zEv Γ 227 (zo 10 0 0 :: [zi (xs (n + 1))]) M1 (fun o M2 => o = some r ∧ Inv M2)) hI (fun r M1 h1 h2 => ⟨r, rfl, h1, h2⟩)) (fun o M1 hq => ?_)
  obtain ⟨r, rfl, ⟨v, rfl⟩, hE⟩ := hq
  refine l_a2 (pc := 1103) (pc' := 1104) C dLw_1103 rfl ?_
  refine l_int (pc := 1104) (pc' := 1109) (j := 1) C hi (by omega) (by decide) dLw_1104 dLw_1105 dLw_1106 dLw_1107 dLw_1108 rfl ?_
  refine l_call (μ := 227) (cN := 10) (idx := 122) (pc := 1109) (pc' := 1112) (as := [zi (xs (n + 1))]) (rest := [.int v]) C rfl rfl rfl (by decide +kernel) (by decide) (zok_is (l := [xs (n + 1)])) rfl (zi7 113 (by decide +kernel) (by decide +kernel)) ⟨by decide +kernel, by decide +kernel⟩ (by show 1 ≤ 8; decide) rfl dLw_1109 rfl hE (fun o M2 hq => ?_)
  obtain ⟨rfl, hI2⟩ := hq
  exact l_eqI (pc := 1112) (tgt := 1698) C dLw_1112 rfl (h M2 hI2)
theorem lc_day {n : Nat} (C : lH Γ κ L xs) (hi : i = iz (n : Int)) (hL : n + 6 ≤ L) (hI : Inv M) (h : ∀ M2, Inv M2 → lJ Γ κ i 1698 [] M2) : lJ Γ κ i 1117 [] M := by
  refine l_a1 (pc := 1117) (pc' := 1118) C dLw_1117 rfl ?_
  refine l_int (pc := 1118) (pc' := 1123) (j := 1) C hi (by omega) (by decide) dLw_1118 dLw_1119 dLw_1120 dLw_1121 dLw_1122 rfl ?_
  refine l_int (pc := 1123) (pc' := 1128) (j := 2) C hi (by omega) (by decide) dLw_1123 dLw_1124 dLw_1125 dLw_1126 dLw_1127 rfl ?_
  refine l_int (pc := 1128) (pc' := 1133) (j := 3) C hi (by omega) (by decide) dLw_1128 dLw_1129 dLw_1130 dLw_1131 dLw_1132 rfl ?_
  refine l_call (μ := 133) (cN := 9) (idx := 123) (pc := 1133) (pc' := 1136) (as := [zi (xs (n + 1)), zi (xs (n + 2)), zi (xs (n + 3))]) (rest := []) C rfl rfl rfl (by decide +kernel) (by decide) (zok_is (l := [xs (n + 1), xs (n + 2), xs (n + 3)])) rfl (zi5 14 (by decide +kernel) (by decide +kernel)) ⟨by decide +kernel, by decide +kernel⟩ (by decide) rfl dLw_1133 rfl (both_day  M (fun o M1 => ∃ r, o = some r ∧ kdV 0 r ∧ zEv Γ 229 (zo 10 0 0 :: [zi (xs (n + 1)), zi (xs (n + 2)), zi (xs (n + 3))]) M1 (fun o M2 => o = some r ∧ Inv M2)) hI (fun r M1 h1 h2 => ⟨r, rfl, h1, h2⟩)) (fun o M1 hq => ?_)
  obtain ⟨r, rfl, ⟨v, rfl⟩, hE⟩ := hq
  refine l_a2 (pc := 1136) (pc' := 1137) C dLw_1136 rfl ?_
  refine l_int (pc := 1137) (pc' := 1142) (j := 1) C hi (by omega) (by decide) dLw_1137 dLw_1138 dLw_1139 dLw_1140 dLw_1141 rfl ?_
  refine l_int (pc := 1142) (pc' := 1147) (j := 2) C hi (by omega) (by decide) dLw_1142 dLw_1143 dLw_1144 dLw_1145 dLw_1146 rfl ?_
  refine l_int (pc := 1147) (pc' := 1152) (j := 3) C hi (by omega) (by decide) dLw_1147 dLw_1148 dLw_1149 dLw_1150 dLw_1151 rfl ?_
  refine l_call (μ := 229) (cN := 10) (idx := 126) (pc := 1152) (pc' := 1155) (as := [zi (xs (n + 1)), zi (xs (n + 2)), zi (xs (n + 3))]) (rest := [.int v]) C rfl rfl rfl (by decide +kernel) (by decide) (zok_is (l := [xs (n + 1), xs (n + 2), xs (n + 3)])) rfl (zi7 117 (by decide +kernel) (by decide +kernel)) ⟨by decide +kernel, by decide +kernel⟩ (by show 1 ≤ 8; decide) rfl dLw_1152 rfl hE (fun o M2 hq => ?_)
  obtain ⟨rfl, hI2⟩ := hq
  exact l_eqI (pc := 1155) (tgt := 1698) C dLw_1155 rfl (h M2 hI2)
theorem lc_spent {n : Nat} (C : lH Γ κ L xs) (hi : i = iz (n : Int)) (hL : n + 6 ≤ L) (hI : Inv M) (h : ∀ M2, Inv M2 → lJ Γ κ i 1698 [] M2) : lJ Γ κ i 1160 [] M := by
  refine l_a1 (pc := 1160) (pc' := 1161) C dLw_1160 rfl ?_
  refine l_int (pc := 1161) (pc' := 1166) (j := 1) C hi (by omega) (by decide) dLw_1161 dLw_1162 dLw_1163 dLw_1164 dLw_1165 rfl ?_
  refine l_int (pc := 1166) (pc' := 1171) (j := 2) C hi (by omega) (by decide) dLw_1166 dLw_1167 dLw_1168 dLw_1169 dLw_1170 rfl ?_
  refine l_call (μ := 134) (cN := 9) (idx := 127) (pc := 1171) (pc' := 1174) (as := [zi (xs (n + 1)), zi (xs (n + 2))]) (rest := []) C rfl rfl rfl (by decide +kernel) (by decide) (zok_is (l := [xs (n + 1), xs (n + 2)])) rfl (zi5 38 (by decide +kernel) (by decide +kernel)) ⟨by decide +kernel, by decide +kernel⟩ (by decide) rfl dLw_1171 rfl (both_spent  M (fun o M1 => ∃ r, o = some r ∧ kdV 0 r ∧ zEv Γ 230 (zo 10 0 0 :: [zi (xs (n + 1)), zi (xs (n + 2))]) M1 (fun o M2 => o = some r ∧ Inv M2)) hI (fun r M1 h1 h2 => ⟨r, rfl, h1, h2⟩)) (fun o M1 hq => ?_)
  obtain ⟨r, rfl, ⟨v, rfl⟩, hE⟩ := hq
  refine l_a2 (pc := 1174) (pc' := 1175) C dLw_1174 rfl ?_
  refine l_int (pc := 1175) (pc' := 1180) (j := 1) C hi (by omega) (by decide) dLw_1175 dLw_1176 dLw_1177 dLw_1178 dLw_1179 rfl ?_
  refine l_int (pc := 1180) (pc' := 1185) (j := 2) C hi (by omega) (by decide) dLw_1180 dLw_1181 dLw_1182 dLw_1183 dLw_1184 rfl ?_
  refine l_call (μ := 230) (cN := 10) (idx := 130) (pc := 1185) (pc' := 1188) (as := [zi (xs (n + 1)), zi (xs (n + 2))]) (rest := [.int v]) C rfl rfl rfl (by decide +kernel) (by decide) (zok_is (l := [xs (n + 1), xs (n + 2)])) rfl (zi7 125 (by decide +kernel) (by decide +kernel)) ⟨by decide +kernel, by decide +kernel⟩ (by show 1 ≤ 8; decide) rfl dLw_1185 rfl hE (fun o M2 hq => ?_)
  obtain ⟨rfl, hI2⟩ := hq
  exact l_eqI (pc := 1188) (tgt := 1698) C dLw_1188 rfl (h M2 hI2)
theorem lc_beside {n : Nat} (C : lH Γ κ L xs) (hi : i = iz (n : Int)) (hL : n + 6 ≤ L) (hI : Inv M) (h : ∀ M2, Inv M2 → lJ Γ κ i 1698 [] M2) : lJ Γ κ i 1193 [] M := by
  refine l_a1 (pc := 1193) (pc' := 1194) C dLw_1193 rfl ?_
  refine l_int (pc := 1194) (pc' := 1199) (j := 1) C hi (by omega) (by decide) dLw_1194 dLw_1195 dLw_1196 dLw_1197 dLw_1198 rfl ?_
  refine l_int (pc := 1199) (pc' := 1204) (j := 2) C hi (by omega) (by decide) dLw_1199 dLw_1200 dLw_1201 dLw_1202 dLw_1203 rfl ?_
  refine l_call (μ := 135) (cN := 9) (idx := 131) (pc := 1204) (pc' := 1207) (as := [zi (xs (n + 1)), zi (xs (n + 2))]) (rest := []) C rfl rfl rfl (by decide +kernel) (by decide) (zok_is (l := [xs (n + 1), xs (n + 2)])) rfl (zi5 42 (by decide +kernel) (by decide +kernel)) ⟨by decide +kernel, by decide +kernel⟩ (by decide) rfl dLw_1204 rfl (both_beside  M (fun o M1 => ∃ r, o = some r ∧ kdV 0 r ∧ zEv Γ 234 (zo 10 0 0 :: [zi (xs (n + 1)), zi (xs (n + 2))]) M1 (fun o M2 => o = some r ∧ Inv M2)) hI (fun r M1 h1 h2 => ⟨r, rfl, h1, h2⟩)) (fun o M1 hq => ?_)
  obtain ⟨r, rfl, ⟨v, rfl⟩, hE⟩ := hq
  refine l_a2 (pc := 1207) (pc' := 1208) C dLw_1207 rfl ?_
  refine l_int (pc := 1208) (pc' := 1213) (j := 1) C hi (by omega) (by decide) dLw_1208 dLw_1209 dLw_1210 dLw_1211 dLw_1212 rfl ?_
  refine l_int (pc := 1213) (pc' := 1218) (j := 2) C hi (by omega) (by decide) dLw_1213 dLw_1214 dLw_1215 dLw_1216 dLw_1217 rfl ?_
  refine l_call (μ := 234) (cN := 10) (idx := 134) (pc := 1218) (pc' := 1221) (as := [zi (xs (n + 1)), zi (xs (n + 2))]) (rest := [.int v]) C rfl rfl rfl (by decide +kernel) (by decide) (zok_is (l := [xs (n + 1), xs (n + 2)])) rfl (zi7 129 (by decide +kernel) (by decide +kernel)) ⟨by decide +kernel, by decide +kernel⟩ (by show 1 ≤ 8; decide) rfl dLw_1218 rfl hE (fun o M2 hq => ?_)
  obtain ⟨rfl, hI2⟩ := hq
  exact l_eqI (pc := 1221) (tgt := 1698) C dLw_1221 rfl (h M2 hI2)
theorem lc_come {n : Nat} (C : lH Γ κ L xs) (hi : i = iz (n : Int)) (hL : n + 6 ≤ L) (hI : Inv M) (h : ∀ M2, Inv M2 → lJ Γ κ i 1698 [] M2) : lJ Γ κ i 1226 [] M := by
  refine l_a1 (pc := 1226) (pc' := 1227) C dLw_1226 rfl ?_
  refine l_int (pc := 1227) (pc' := 1232) (j := 1) C hi (by omega) (by decide) dLw_1227 dLw_1228 dLw_1229 dLw_1230 dLw_1231 rfl ?_
  refine l_int (pc := 1232) (pc' := 1237) (j := 2) C hi (by omega) (by decide) dLw_1232 dLw_1233 dLw_1234 dLw_1235 dLw_1236 rfl ?_
  refine l_int (pc := 1237) (pc' := 1242) (j := 3) C hi (by omega) (by decide) dLw_1237 dLw_1238 dLw_1239 dLw_1240 dLw_1241 rfl ?_
  refine l_call (μ := 136) (cN := 9) (idx := 135) (pc := 1242) (pc' := 1245) (as := [zi (xs (n + 1)), zi (xs (n + 2)), zi (xs (n + 3))]) (rest := []) C rfl rfl rfl (by decide +kernel) (by decide) (zok_is (l := [xs (n + 1), xs (n + 2), xs (n + 3)])) rfl (zi5 50 (by decide +kernel) (by decide +kernel)) ⟨by decide +kernel, by decide +kernel⟩ (by decide) rfl dLw_1242 rfl (both_come  M (fun o M1 => ∃ r, o = some r ∧ kdV 0 r ∧ zEv Γ 235 (zo 10 0 0 :: [zi (xs (n + 1)), zi (xs (n + 2)), zi (xs (n + 3))]) M1 (fun o M2 => o = some r ∧ Inv M2)) hI (fun r M1 h1 h2 => ⟨r, rfl, h1, h2⟩)) (fun o M1 hq => ?_)
  obtain ⟨r, rfl, ⟨v, rfl⟩, hE⟩ := hq
  refine l_a2 (pc := 1245) (pc' := 1246) C dLw_1245 rfl ?_
  refine l_int (pc := 1246) (pc' := 1251) (j := 1) C hi (by omega) (by decide) dLw_1246 dLw_1247 dLw_1248 dLw_1249 dLw_1250 rfl ?_
  refine l_int (pc := 1251) (pc' := 1256) (j := 2) C hi (by omega) (by decide) dLw_1251 dLw_1252 dLw_1253 dLw_1254 dLw_1255 rfl ?_
  refine l_int (pc := 1256) (pc' := 1261) (j := 3) C hi (by omega) (by decide) dLw_1256 dLw_1257 dLw_1258 dLw_1259 dLw_1260 rfl ?_
  refine l_call (μ := 235) (cN := 10) (idx := 138) (pc := 1261) (pc' := 1264) (as := [zi (xs (n + 1)), zi (xs (n + 2)), zi (xs (n + 3))]) (rest := [.int v]) C rfl rfl rfl (by decide +kernel) (by decide) (zok_is (l := [xs (n + 1), xs (n + 2), xs (n + 3)])) rfl (zi7 146 (by decide +kernel) (by decide +kernel)) ⟨by decide +kernel, by decide +kernel⟩ (by show 1 ≤ 8; decide) rfl dLw_1261 rfl hE (fun o M2 hq => ?_)
  obtain ⟨rfl, hI2⟩ := hq
  exact l_eqI (pc := 1264) (tgt := 1698) C dLw_1264 rfl (h M2 hI2)
theorem lc_spared {n : Nat} (C : lH Γ κ L xs) (hi : i = iz (n : Int)) (hL : n + 6 ≤ L) (hI : Inv M) (h : ∀ M2, Inv M2 → lJ Γ κ i 1698 [] M2) : lJ Γ κ i 1269 [] M := by
  refine l_a1 (pc := 1269) (pc' := 1270) C dLw_1269 rfl ?_
  refine l_int (pc := 1270) (pc' := 1275) (j := 1) C hi (by omega) (by decide) dLw_1270 dLw_1271 dLw_1272 dLw_1273 dLw_1274 rfl ?_
  refine l_int (pc := 1275) (pc' := 1280) (j := 2) C hi (by omega) (by decide) dLw_1275 dLw_1276 dLw_1277 dLw_1278 dLw_1279 rfl ?_
  refine l_call (μ := 137) (cN := 9) (idx := 139) (pc := 1280) (pc' := 1283) (as := [zi (xs (n + 1)), zi (xs (n + 2))]) (rest := []) C rfl rfl rfl (by decide +kernel) (by decide) (zok_is (l := [xs (n + 1), xs (n + 2)])) rfl (zi5 59 (by decide +kernel) (by decide +kernel)) ⟨by decide +kernel, by decide +kernel⟩ (by decide) rfl dLw_1280 rfl (both_spared  M (fun o M1 => ∃ r, o = some r ∧ kdV 0 r ∧ zEv Γ 237 (zo 10 0 0 :: [zi (xs (n + 1)), zi (xs (n + 2))]) M1 (fun o M2 => o = some r ∧ Inv M2)) hI (fun r M1 h1 h2 => ⟨r, rfl, h1, h2⟩)) (fun o M1 hq => ?_)
  obtain ⟨r, rfl, ⟨v, rfl⟩, hE⟩ := hq
  refine l_a2 (pc := 1283) (pc' := 1284) C dLw_1283 rfl ?_
  refine l_int (pc := 1284) (pc' := 1289) (j := 1) C hi (by omega) (by decide) dLw_1284 dLw_1285 dLw_1286 dLw_1287 dLw_1288 rfl ?_
  refine l_int (pc := 1289) (pc' := 1294) (j := 2) C hi (by omega) (by decide) dLw_1289 dLw_1290 dLw_1291 dLw_1292 dLw_1293 rfl ?_
  refine l_call (μ := 237) (cN := 10) (idx := 142) (pc := 1294) (pc' := 1297) (as := [zi (xs (n + 1)), zi (xs (n + 2))]) (rest := [.int v]) C rfl rfl rfl (by decide +kernel) (by decide) (zok_is (l := [xs (n + 1), xs (n + 2)])) rfl (zi7 150 (by decide +kernel) (by decide +kernel)) ⟨by decide +kernel, by decide +kernel⟩ (by show 1 ≤ 8; decide) rfl dLw_1294 rfl hE (fun o M2 hq => ?_)
  obtain ⟨rfl, hI2⟩ := hq
  exact l_eqI (pc := 1297) (tgt := 1698) C dLw_1297 rfl (h M2 hI2)
theorem lc_breaks {n : Nat} (C : lH Γ κ L xs) (hi : i = iz (n : Int)) (hL : n + 6 ≤ L) (hI : Inv M) (h : ∀ M2, Inv M2 → lJ Γ κ i 1698 [] M2) : lJ Γ κ i 1302 [] M := by
  refine l_a1 (pc := 1302) (pc' := 1303) C dLw_1302 rfl ?_
  refine l_int (pc := 1303) (pc' := 1308) (j := 1) C hi (by omega) (by decide) dLw_1303 dLw_1304 dLw_1305 dLw_1306 dLw_1307 rfl ?_
  refine l_call (μ := 138) (cN := 9) (idx := 143) (pc := 1308) (pc' := 1311) (as := [zi (xs (n + 1))]) (rest := []) C rfl rfl rfl (by decide +kernel) (by decide) (zok_is (l := [xs (n + 1)])) rfl (zi5 68 (by decide +kernel) (by decide +kernel)) ⟨by decide +kernel, by decide +kernel⟩ (by decide) rfl dLw_1308 rfl (both_breaks  M (fun o M1 => ∃ r, o = some r ∧ kdV 0 r ∧ zEv Γ 238 (zo 10 0 0 :: [zi (xs (n + 1))]) M1 (fun o M2 => o = some r ∧ Inv M2)) hI (fun r M1 h1 h2 => ⟨r, rfl, h1, h2⟩)) (fun o M1 hq => ?_)
  obtain ⟨r, rfl, ⟨v, rfl⟩, hE⟩ := hq
  refine l_a2 (pc := 1311) (pc' := 1312) C dLw_1311 rfl ?_
  refine l_int (pc := 1312) (pc' := 1317) (j := 1) C hi (by omega) (by decide) dLw_1312 dLw_1313 dLw_1314 dLw_1315 dLw_1316 rfl ?_
  refine l_call (μ := 238) (cN := 10) (idx := 146) (pc := 1317) (pc' := 1320) (as := [zi (xs (n + 1))]) (rest := [.int v]) C rfl rfl rfl (by decide +kernel) (by decide) (zok_is (l := [xs (n + 1)])) rfl (zi7 158 (by decide +kernel) (by decide +kernel)) ⟨by decide +kernel, by decide +kernel⟩ (by show 1 ≤ 8; decide) rfl dLw_1317 rfl hE (fun o M2 hq => ?_)
  obtain ⟨rfl, hI2⟩ := hq
  exact l_eqI (pc := 1320) (tgt := 1698) C dLw_1320 rfl (h M2 hI2)
theorem lc_mark {n : Nat} (C : lH Γ κ L xs) (hi : i = iz (n : Int)) (hL : n + 6 ≤ L) (hI : Inv M) (h : ∀ M2, Inv M2 → lJ Γ κ i 1698 [] M2) : lJ Γ κ i 1325 [] M := by
  refine l_a1 (pc := 1325) (pc' := 1326) C dLw_1325 rfl ?_
  refine l_int (pc := 1326) (pc' := 1331) (j := 1) C hi (by omega) (by decide) dLw_1326 dLw_1327 dLw_1328 dLw_1329 dLw_1330 rfl ?_
  refine l_int (pc := 1331) (pc' := 1336) (j := 2) C hi (by omega) (by decide) dLw_1331 dLw_1332 dLw_1333 dLw_1334 dLw_1335 rfl ?_
  refine l_call (μ := 139) (cN := 9) (idx := 147) (pc := 1336) (pc' := 1339) (as := [zi (xs (n + 1)), zi (xs (n + 2))]) (rest := []) C rfl rfl rfl (by decide +kernel) (by decide) (zok_is (l := [xs (n + 1), xs (n + 2)])) rfl (zi5 72 (by decide +kernel) (by decide +kernel)) ⟨by decide +kernel, by decide +kernel⟩ (by decide) rfl dLw_1336 rfl (both_mark  M (fun o M1 => ∃ r, o = some r ∧ kdV 0 r ∧ zEv Γ 239 (zo 10 0 0 :: [zi (xs (n + 1)), zi (xs (n + 2))]) M1 (fun o M2 => o = some r ∧ Inv M2)) hI (fun r M1 h1 h2 => ⟨r, rfl, h1, h2⟩)) (fun o M1 hq => ?_)
  obtain ⟨r, rfl, ⟨v, rfl⟩, hE⟩ := hq
  refine l_a2 (pc := 1339) (pc' := 1340) C dLw_1339 rfl ?_
  refine l_int (pc := 1340) (pc' := 1345) (j := 1) C hi (by omega) (by decide) dLw_1340 dLw_1341 dLw_1342 dLw_1343 dLw_1344 rfl ?_
  refine l_int (pc := 1345) (pc' := 1350) (j := 2) C hi (by omega) (by decide) dLw_1345 dLw_1346 dLw_1347 dLw_1348 dLw_1349 rfl ?_
  refine l_call (μ := 239) (cN := 10) (idx := 150) (pc := 1350) (pc' := 1353) (as := [zi (xs (n + 1)), zi (xs (n + 2))]) (rest := [.int v]) C rfl rfl rfl (by decide +kernel) (by decide) (zok_is (l := [xs (n + 1), xs (n + 2)])) rfl (zi7 162 (by decide +kernel) (by decide +kernel)) ⟨by decide +kernel, by decide +kernel⟩ (by show 1 ≤ 8; decide) rfl dLw_1350 rfl hE (fun o M2 hq => ?_)
  obtain ⟨rfl, hI2⟩ := hq
  exact l_eqI (pc := 1353) (tgt := 1698) C dLw_1353 rfl (h M2 hI2)
theorem lc_without {n : Nat} (C : lH Γ κ L xs) (hi : i = iz (n : Int)) (hL : n + 6 ≤ L) (hI : Inv M) (h : ∀ M2, Inv M2 → lJ Γ κ i 1698 [] M2) : lJ Γ κ i 1358 [] M := by
  refine l_a1 (pc := 1358) (pc' := 1359) C dLw_1358 rfl ?_
  refine l_int (pc := 1359) (pc' := 1364) (j := 1) C hi (by omega) (by decide) dLw_1359 dLw_1360 dLw_1361 dLw_1362 dLw_1363 rfl ?_
  refine l_int (pc := 1364) (pc' := 1369) (j := 2) C hi (by omega) (by decide) dLw_1364 dLw_1365 dLw_1366 dLw_1367 dLw_1368 rfl ?_
  refine l_call (μ := 140) (cN := 9) (idx := 151) (pc := 1369) (pc' := 1372) (as := [zi (xs (n + 1)), zi (xs (n + 2))]) (rest := []) C rfl rfl rfl (by decide +kernel) (by decide) (zok_is (l := [xs (n + 1), xs (n + 2)])) rfl (zi5 78 (by decide +kernel) (by decide +kernel)) ⟨by decide +kernel, by decide +kernel⟩ (by decide) rfl dLw_1369 rfl (both_without  M (fun o M1 => ∃ r, o = some r ∧ kdV 0 r ∧ zEv Γ 240 (zo 10 0 0 :: [zi (xs (n + 1)), zi (xs (n + 2))]) M1 (fun o M2 => o = some r ∧ Inv M2)) hI (fun r M1 h1 h2 => ⟨r, rfl, h1, h2⟩)) (fun o M1 hq => ?_)
  obtain ⟨r, rfl, ⟨v, rfl⟩, hE⟩ := hq
  refine l_a2 (pc := 1372) (pc' := 1373) C dLw_1372 rfl ?_
  refine l_int (pc := 1373) (pc' := 1378) (j := 1) C hi (by omega) (by decide) dLw_1373 dLw_1374 dLw_1375 dLw_1376 dLw_1377 rfl ?_
  refine l_int (pc := 1378) (pc' := 1383) (j := 2) C hi (by omega) (by decide) dLw_1378 dLw_1379 dLw_1380 dLw_1381 dLw_1382 rfl ?_
  refine l_call (μ := 240) (cN := 10) (idx := 154) (pc := 1383) (pc' := 1386) (as := [zi (xs (n + 1)), zi (xs (n + 2))]) (rest := [.int v]) C rfl rfl rfl (by decide +kernel) (by decide) (zok_is (l := [xs (n + 1), xs (n + 2)])) rfl (zi7 166 (by decide +kernel) (by decide +kernel)) ⟨by decide +kernel, by decide +kernel⟩ (by show 1 ≤ 8; decide) rfl dLw_1383 rfl hE (fun o M2 hq => ?_)
  obtain ⟨rfl, hI2⟩ := hq
  exact l_eqI (pc := 1386) (tgt := 1698) C dLw_1386 rfl (h M2 hI2)
theorem lc_guess {n : Nat} (C : lH Γ κ L xs) (hi : i = iz (n : Int)) (hL : n + 6 ≤ L) (hI : Inv M) (h : ∀ M2, Inv M2 → lJ Γ κ i 1698 [] M2) : lJ Γ κ i 1391 [] M := by
  refine l_a1 (pc := 1391) (pc' := 1392) C dLw_1391 rfl ?_
  refine l_int (pc := 1392) (pc' := 1397) (j := 1) C hi (by omega) (by decide) dLw_1392 dLw_1393 dLw_1394 dLw_1395 dLw_1396 rfl ?_
  refine l_int (pc := 1397) (pc' := 1402) (j := 2) C hi (by omega) (by decide) dLw_1397 dLw_1398 dLw_1399 dLw_1400 dLw_1401 rfl ?_
  refine l_int (pc := 1402) (pc' := 1407) (j := 3) C hi (by omega) (by decide) dLw_1402 dLw_1403 dLw_1404 dLw_1405 dLw_1406 rfl ?_
  refine l_bool (pc := 1407) (t1 := 1414) (t2 := 1415) C dLw_1407 dLw_1410 dLw_1411 dLw_1414 rfl rfl ?_
  refine l_call (μ := 141) (cN := 9) (idx := 155) (pc := 1415) (pc' := 1418) (as := [zi (xs (n + 1)), zi (xs (n + 2)), zi ((if xs (n + 3) = 0 then 0 else 1))]) (rest := []) C rfl rfl rfl (by decide +kernel) (by decide) (zok_is (l := [xs (n + 1), xs (n + 2), (if xs (n + 3) = 0 then 0 else 1)])) rfl (zi5 82 (by decide +kernel) (by decide +kernel)) ⟨by decide +kernel, by decide +kernel⟩ (by decide) rfl dLw_1415 rfl (both_guess  M (fun o M1 => ∃ r, o = some r ∧ kdV 1 r ∧ zEv Γ 242 (zo 10 0 0 :: [zi (xs (n + 1)), zi (xs (n + 2)), zi ((if xs (n + 3) = 0 then 0 else 1))]) M1 (fun o M2 => o = some r ∧ Inv M2)) hI (fun r M1 h1 h2 => ⟨r, rfl, h1, h2⟩)) (fun o M1 hq => ?_)
  obtain ⟨r, rfl, ⟨v, rfl⟩, hE⟩ := hq
  refine l_a2 (pc := 1418) (pc' := 1419) C dLw_1418 rfl ?_
  refine l_int (pc := 1419) (pc' := 1424) (j := 1) C hi (by omega) (by decide) dLw_1419 dLw_1420 dLw_1421 dLw_1422 dLw_1423 rfl ?_
  refine l_int (pc := 1424) (pc' := 1429) (j := 2) C hi (by omega) (by decide) dLw_1424 dLw_1425 dLw_1426 dLw_1427 dLw_1428 rfl ?_
  refine l_int (pc := 1429) (pc' := 1434) (j := 3) C hi (by omega) (by decide) dLw_1429 dLw_1430 dLw_1431 dLw_1432 dLw_1433 rfl ?_
  refine l_bool (pc := 1434) (t1 := 1441) (t2 := 1442) C dLw_1434 dLw_1437 dLw_1438 dLw_1441 rfl rfl ?_
  refine l_call (μ := 242) (cN := 10) (idx := 159) (pc := 1442) (pc' := 1445) (as := [zi (xs (n + 1)), zi (xs (n + 2)), zi ((if xs (n + 3) = 0 then 0 else 1))]) (rest := [.long v]) C rfl rfl rfl (by decide +kernel) (by decide) (zok_is (l := [xs (n + 1), xs (n + 2), (if xs (n + 3) = 0 then 0 else 1)])) rfl (zi7 170 (by decide +kernel) (by decide +kernel)) ⟨by decide +kernel, by decide +kernel⟩ (by show 2 ≤ 8; decide) rfl dLw_1442 rfl hE (fun o M2 hq => ?_)
  obtain ⟨rfl, hI2⟩ := hq
  exact l_eqL (pc := 1445) (tgt := 1698) C dLw_1445 dLw_1446 rfl (h M2 hI2)
theorem lc_pair {n : Nat} (C : lH Γ κ L xs) (hi : i = iz (n : Int)) (hL : n + 6 ≤ L) (hI : Inv M) (h : ∀ M2, Inv M2 → lJ Γ κ i 1698 [] M2) : lJ Γ κ i 1451 [] M := by
  refine l_a1 (pc := 1451) (pc' := 1452) C dLw_1451 rfl ?_
  refine l_int (pc := 1452) (pc' := 1457) (j := 1) C hi (by omega) (by decide) dLw_1452 dLw_1453 dLw_1454 dLw_1455 dLw_1456 rfl ?_
  refine l_int (pc := 1457) (pc' := 1462) (j := 2) C hi (by omega) (by decide) dLw_1457 dLw_1458 dLw_1459 dLw_1460 dLw_1461 rfl ?_
  refine l_int (pc := 1462) (pc' := 1467) (j := 3) C hi (by omega) (by decide) dLw_1462 dLw_1463 dLw_1464 dLw_1465 dLw_1466 rfl ?_
  refine l_int (pc := 1467) (pc' := 1472) (j := 4) C hi (by omega) (by decide) dLw_1467 dLw_1468 dLw_1469 dLw_1470 dLw_1471 rfl ?_
  refine l_call (μ := 142) (cN := 9) (idx := 160) (pc := 1472) (pc' := 1475) (as := [zi (xs (n + 1)), zi (xs (n + 2)), zi (xs (n + 3)), zi (xs (n + 4))]) (rest := []) C rfl rfl rfl (by decide +kernel) (by decide) (zok_is (l := [xs (n + 1), xs (n + 2), xs (n + 3), xs (n + 4)])) rfl (zi5 97 (by decide +kernel) (by decide +kernel)) ⟨by decide +kernel, by decide +kernel⟩ (by decide) rfl dLw_1472 rfl (both_pair  M (fun o M1 => ∃ r, o = some r ∧ kdV 0 r ∧ zEv Γ 243 (zo 10 0 0 :: [zi (xs (n + 1)), zi (xs (n + 2)), zi (xs (n + 3)), zi (xs (n + 4))]) M1 (fun o M2 => o = some r ∧ Inv M2)) hI (fun r M1 h1 h2 => ⟨r, rfl, h1, h2⟩)) (fun o M1 hq => ?_)
  obtain ⟨r, rfl, ⟨v, rfl⟩, hE⟩ := hq
  refine l_a2 (pc := 1475) (pc' := 1476) C dLw_1475 rfl ?_
  refine l_int (pc := 1476) (pc' := 1481) (j := 1) C hi (by omega) (by decide) dLw_1476 dLw_1477 dLw_1478 dLw_1479 dLw_1480 rfl ?_
  refine l_int (pc := 1481) (pc' := 1486) (j := 2) C hi (by omega) (by decide) dLw_1481 dLw_1482 dLw_1483 dLw_1484 dLw_1485 rfl ?_
  refine l_int (pc := 1486) (pc' := 1491) (j := 3) C hi (by omega) (by decide) dLw_1486 dLw_1487 dLw_1488 dLw_1489 dLw_1490 rfl ?_
  refine l_int (pc := 1491) (pc' := 1496) (j := 4) C hi (by omega) (by decide) dLw_1491 dLw_1492 dLw_1493 dLw_1494 dLw_1495 rfl ?_
  refine l_call (μ := 243) (cN := 10) (idx := 163) (pc := 1496) (pc' := 1499) (as := [zi (xs (n + 1)), zi (xs (n + 2)), zi (xs (n + 3)), zi (xs (n + 4))]) (rest := [.int v]) C rfl rfl rfl (by decide +kernel) (by decide) (zok_is (l := [xs (n + 1), xs (n + 2), xs (n + 3), xs (n + 4)])) rfl (zi7 179 (by decide +kernel) (by decide +kernel)) ⟨by decide +kernel, by decide +kernel⟩ (by show 1 ≤ 8; decide) rfl dLw_1496 rfl hE (fun o M2 hq => ?_)
  obtain ⟨rfl, hI2⟩ := hq
  exact l_eqI (pc := 1499) (tgt := 1698) C dLw_1499 rfl (h M2 hI2)
theorem lc_tells {n : Nat} (C : lH Γ κ L xs) (hi : i = iz (n : Int)) (hL : n + 6 ≤ L) (hI : Inv M) (h : ∀ M2, Inv M2 → lJ Γ κ i 1698 [] M2) : lJ Γ κ i 1504 [] M := by
  refine l_a1 (pc := 1504) (pc' := 1505) C dLw_1504 rfl ?_
  refine l_int (pc := 1505) (pc' := 1510) (j := 1) C hi (by omega) (by decide) dLw_1505 dLw_1506 dLw_1507 dLw_1508 dLw_1509 rfl ?_
  refine l_int (pc := 1510) (pc' := 1515) (j := 2) C hi (by omega) (by decide) dLw_1510 dLw_1511 dLw_1512 dLw_1513 dLw_1514 rfl ?_
  refine l_int (pc := 1515) (pc' := 1520) (j := 3) C hi (by omega) (by decide) dLw_1515 dLw_1516 dLw_1517 dLw_1518 dLw_1519 rfl ?_
  refine l_int (pc := 1520) (pc' := 1525) (j := 4) C hi (by omega) (by decide) dLw_1520 dLw_1521 dLw_1522 dLw_1523 dLw_1524 rfl ?_
  refine l_bool (pc := 1525) (t1 := 1532) (t2 := 1533) C dLw_1525 dLw_1528 dLw_1529 dLw_1532 rfl rfl ?_
  refine l_call (μ := 143) (cN := 9) (idx := 164) (pc := 1533) (pc' := 1536) (as := [zi (xs (n + 1)), zi (xs (n + 2)), zi (xs (n + 3)), zi ((if xs (n + 4) = 0 then 0 else 1))]) (rest := []) C rfl rfl rfl (by decide +kernel) (by decide) (zok_is (l := [xs (n + 1), xs (n + 2), xs (n + 3), (if xs (n + 4) = 0 then 0 else 1)])) rfl (zi5 118 (by decide +kernel) (by decide +kernel)) ⟨by decide +kernel, by decide +kernel⟩ (by decide) rfl dLw_1533 rfl (both_tells  M (fun o M1 => ∃ r, o = some r ∧ kdV 0 r ∧ zEv Γ 244 (zo 10 0 0 :: [zi (xs (n + 1)), zi (xs (n + 2)), zi (xs (n + 3)), zi ((if xs (n + 4) = 0 then 0 else 1))]) M1 (fun o M2 => o = some r ∧ Inv M2)) hI (fun r M1 h1 h2 => ⟨r, rfl, h1, h2⟩)) (fun o M1 hq => ?_)
  obtain ⟨r, rfl, ⟨v, rfl⟩, hE⟩ := hq
  refine l_a2 (pc := 1536) (pc' := 1537) C dLw_1536 rfl ?_
  refine l_int (pc := 1537) (pc' := 1542) (j := 1) C hi (by omega) (by decide) dLw_1537 dLw_1538 dLw_1539 dLw_1540 dLw_1541 rfl ?_
  refine l_int (pc := 1542) (pc' := 1547) (j := 2) C hi (by omega) (by decide) dLw_1542 dLw_1543 dLw_1544 dLw_1545 dLw_1546 rfl ?_
  refine l_int (pc := 1547) (pc' := 1552) (j := 3) C hi (by omega) (by decide) dLw_1547 dLw_1548 dLw_1549 dLw_1550 dLw_1551 rfl ?_
  refine l_int (pc := 1552) (pc' := 1557) (j := 4) C hi (by omega) (by decide) dLw_1552 dLw_1553 dLw_1554 dLw_1555 dLw_1556 rfl ?_
  refine l_bool (pc := 1557) (t1 := 1564) (t2 := 1565) C dLw_1557 dLw_1560 dLw_1561 dLw_1564 rfl rfl ?_
  refine l_call (μ := 244) (cN := 10) (idx := 168) (pc := 1565) (pc' := 1568) (as := [zi (xs (n + 1)), zi (xs (n + 2)), zi (xs (n + 3)), zi ((if xs (n + 4) = 0 then 0 else 1))]) (rest := [.int v]) C rfl rfl rfl (by decide +kernel) (by decide) (zok_is (l := [xs (n + 1), xs (n + 2), xs (n + 3), (if xs (n + 4) = 0 then 0 else 1)])) rfl (zi7 183 (by decide +kernel) (by decide +kernel)) ⟨by decide +kernel, by decide +kernel⟩ (by show 1 ≤ 8; decide) rfl dLw_1565 rfl hE (fun o M2 hq => ?_)
  obtain ⟨rfl, hI2⟩ := hq
  exact l_eqI (pc := 1568) (tgt := 1698) C dLw_1568 rfl (h M2 hI2)
theorem lc_climb {n : Nat} (hst : zSt Γ) (C : lH Γ κ L xs) (hi : i = iz (n : Int)) (hL : n + 6 ≤ L) (hI : Inv M) (h : ∀ M2, Inv M2 → lJ Γ κ i 1698 [] M2) : lJ Γ κ i 1573 [] M := by
  refine l_a1 (pc := 1573) (pc' := 1574) C dLw_1573 rfl ?_
  refine l_int (pc := 1574) (pc' := 1579) (j := 1) C hi (by omega) (by decide) dLw_1574 dLw_1575 dLw_1576 dLw_1577 dLw_1578 rfl ?_
  refine l_int (pc := 1579) (pc' := 1584) (j := 2) C hi (by omega) (by decide) dLw_1579 dLw_1580 dLw_1581 dLw_1582 dLw_1583 rfl ?_
  refine l_int (pc := 1584) (pc' := 1589) (j := 3) C hi (by omega) (by decide) dLw_1584 dLw_1585 dLw_1586 dLw_1587 dLw_1588 rfl ?_
  refine l_call (μ := 144) (cN := 9) (idx := 169) (pc := 1589) (pc' := 1592) (as := [zi (xs (n + 1)), zi (xs (n + 2)), zi (xs (n + 3))]) (rest := []) C rfl rfl rfl (by decide +kernel) (by decide) (zok_is (l := [xs (n + 1), xs (n + 2), xs (n + 3)])) rfl (zi5 128 (by decide +kernel) (by decide +kernel)) ⟨by decide +kernel, by decide +kernel⟩ (by decide) rfl dLw_1589 rfl (both_climb hst M (fun o M1 => ∃ r, o = some r ∧ kdV 0 r ∧ zEv Γ 249 (zo 10 0 0 :: [zi (xs (n + 1)), zi (xs (n + 2)), zi (xs (n + 3))]) M1 (fun o M2 => o = some r ∧ Inv M2)) hI (fun r M1 h1 h2 => ⟨r, rfl, h1, h2⟩)) (fun o M1 hq => ?_)
  obtain ⟨r, rfl, ⟨v, rfl⟩, hE⟩ := hq
  refine l_a2 (pc := 1592) (pc' := 1593) C dLw_1592 rfl ?_
  refine l_int (pc := 1593) (pc' := 1598) (j := 1) C hi (by omega) (by decide) dLw_1593 dLw_1594 dLw_1595 dLw_1596 dLw_1597 rfl ?_
  refine l_int (pc := 1598) (pc' := 1603) (j := 2) C hi (by omega) (by decide) dLw_1598 dLw_1599 dLw_1600 dLw_1601 dLw_1602 rfl ?_
  refine l_int (pc := 1603) (pc' := 1608) (j := 3) C hi (by omega) (by decide) dLw_1603 dLw_1604 dLw_1605 dLw_1606 dLw_1607 rfl ?_
  refine l_call (μ := 249) (cN := 10) (idx := 172) (pc := 1608) (pc' := 1611) (as := [zi (xs (n + 1)), zi (xs (n + 2)), zi (xs (n + 3))]) (rest := [.int v]) C rfl rfl rfl (by decide +kernel) (by decide) (zok_is (l := [xs (n + 1), xs (n + 2), xs (n + 3)])) rfl (zi7 187 (by decide +kernel) (by decide +kernel)) ⟨by decide +kernel, by decide +kernel⟩ (by show 1 ≤ 8; decide) rfl dLw_1608 rfl hE (fun o M2 hq => ?_)
  obtain ⟨rfl, hI2⟩ := hq
  exact l_eqI (pc := 1611) (tgt := 1698) C dLw_1611 rfl (h M2 hI2)
theorem lc_climbs {n : Nat} (hst : zSt Γ) (C : lH Γ κ L xs) (hi : i = iz (n : Int)) (hL : n + 6 ≤ L) (hI : Inv M) (h : ∀ M2, Inv M2 → lJ Γ κ i 1698 [] M2) : lJ Γ κ i 1616 [] M := by
  refine l_a1 (pc := 1616) (pc' := 1617) C dLw_1616 rfl ?_
  refine l_int (pc := 1617) (pc' := 1622) (j := 1) C hi (by omega) (by decide) dLw_1617 dLw_1618 dLw_1619 dLw_1620 dLw_1621 rfl ?_
  refine l_call (μ := 145) (cN := 9) (idx := 173) (pc := 1622) (pc' := 1625) (as := [zi (xs (n + 1))]) (rest := []) C rfl rfl rfl (by decide +kernel) (by decide) (zok_is (l := [xs (n + 1)])) rfl (zi5 156 (by decide +kernel) (by decide +kernel)) ⟨by decide +kernel, by decide +kernel⟩ (by decide) rfl dLw_1622 rfl (both_climbs hst M (fun o M1 => ∃ r, o = some r ∧ kdV 0 r ∧ zEv Γ 250 (zo 10 0 0 :: [zi (xs (n + 1))]) M1 (fun o M2 => o = some r ∧ Inv M2)) hI (fun r M1 h1 h2 => ⟨r, rfl, h1, h2⟩)) (fun o M1 hq => ?_)
  obtain ⟨r, rfl, ⟨v, rfl⟩, hE⟩ := hq
  refine l_a2 (pc := 1625) (pc' := 1626) C dLw_1625 rfl ?_
  refine l_int (pc := 1626) (pc' := 1631) (j := 1) C hi (by omega) (by decide) dLw_1626 dLw_1627 dLw_1628 dLw_1629 dLw_1630 rfl ?_
  refine l_call (μ := 250) (cN := 10) (idx := 176) (pc := 1631) (pc' := 1634) (as := [zi (xs (n + 1))]) (rest := [.int v]) C rfl rfl rfl (by decide +kernel) (by decide) (zok_is (l := [xs (n + 1)])) rfl (zi7 206 (by decide +kernel) (by decide +kernel)) ⟨by decide +kernel, by decide +kernel⟩ (by show 1 ≤ 8; decide) rfl dLw_1631 rfl hE (fun o M2 hq => ?_)
  obtain ⟨rfl, hI2⟩ := hq
  exact l_eqI (pc := 1634) (tgt := 1698) C dLw_1634 rfl (h M2 hI2)
theorem lc_count {n : Nat} (C : lH Γ κ L xs) (hi : i = iz (n : Int)) (hL : n + 6 ≤ L) (hI : Inv M) (h : ∀ M2, Inv M2 → lJ Γ κ i 1698 [] M2) : lJ Γ κ i 1639 [] M := by
  refine l_a1 (pc := 1639) (pc' := 1640) C dLw_1639 rfl ?_
  refine l_call (μ := 146) (cN := 9) (idx := 177) (pc := 1640) (pc' := 1643) (as := []) (rest := []) C rfl rfl rfl (by decide +kernel) (by decide) (fun v hv => by cases hv) rfl (zi5 160 (by decide +kernel) (by decide +kernel)) ⟨by decide +kernel, by decide +kernel⟩ (by decide) rfl dLw_1640 rfl (both_count  M (fun o M1 => ∃ r, o = some r ∧ kdV 0 r ∧ zEv Γ 251 (zo 10 0 0 :: []) M1 (fun o M2 => o = some r ∧ Inv M2)) hI (fun r M1 h1 h2 => ⟨r, rfl, h1, h2⟩)) (fun o M1 hq => ?_)
  obtain ⟨r, rfl, ⟨v, rfl⟩, hE⟩ := hq
  refine l_a2 (pc := 1643) (pc' := 1644) C dLw_1643 rfl ?_
  refine l_call (μ := 251) (cN := 10) (idx := 181) (pc := 1644) (pc' := 1647) (as := []) (rest := [.int v]) C rfl rfl rfl (by decide +kernel) (by decide) (fun v hv => by cases hv) rfl (zi7 210 (by decide +kernel) (by decide +kernel)) ⟨by decide +kernel, by decide +kernel⟩ (by show 1 ≤ 8; decide) rfl dLw_1644 rfl hE (fun o M2 hq => ?_)
  obtain ⟨rfl, hI2⟩ := hq
  exact l_eqI (pc := 1647) (tgt := 1698) C dLw_1647 rfl (h M2 hI2)
theorem lc_image {n : Nat} (C : lH Γ κ L xs) (hi : i = iz (n : Int)) (hL : n + 6 ≤ L) (hI : Inv M) (h : ∀ M2, Inv M2 → lJ Γ κ i 1698 [] M2) : lJ Γ κ i 1652 [] M := by
  refine l_a1 (pc := 1652) (pc' := 1653) C dLw_1652 rfl ?_
  refine l_int (pc := 1653) (pc' := 1658) (j := 1) C hi (by omega) (by decide) dLw_1653 dLw_1654 dLw_1655 dLw_1656 dLw_1657 rfl ?_
  refine l_call (μ := 147) (cN := 9) (idx := 182) (pc := 1658) (pc' := 1661) (as := [zi (xs (n + 1))]) (rest := []) C rfl rfl rfl (by decide +kernel) (by decide) (zok_is (l := [xs (n + 1)])) rfl (zi5 164 (by decide +kernel) (by decide +kernel)) ⟨by decide +kernel, by decide +kernel⟩ (by decide) rfl dLw_1658 rfl (both_image  M (fun o M1 => ∃ r, o = some r ∧ kdV 0 r ∧ zEv Γ 252 (zo 10 0 0 :: [zi (xs (n + 1))]) M1 (fun o M2 => o = some r ∧ Inv M2)) hI (fun r M1 h1 h2 => ⟨r, rfl, h1, h2⟩)) (fun o M1 hq => ?_)
  obtain ⟨r, rfl, ⟨v, rfl⟩, hE⟩ := hq
  refine l_a2 (pc := 1661) (pc' := 1662) C dLw_1661 rfl ?_
  refine l_int (pc := 1662) (pc' := 1667) (j := 1) C hi (by omega) (by decide) dLw_1662 dLw_1663 dLw_1664 dLw_1665 dLw_1666 rfl ?_
  refine l_call (μ := 252) (cN := 10) (idx := 186) (pc := 1667) (pc' := 1670) (as := [zi (xs (n + 1))]) (rest := [.int v]) C rfl rfl rfl (by decide +kernel) (by decide) (zok_is (l := [xs (n + 1)])) rfl (zi7 214 (by decide +kernel) (by decide +kernel)) ⟨by decide +kernel, by decide +kernel⟩ (by show 1 ≤ 8; decide) rfl dLw_1667 rfl hE (fun o M2 hq => ?_)
  obtain ⟨rfl, hI2⟩ := hq
  exact l_eqI (pc := 1670) (tgt := 1698) C dLw_1670 rfl (h M2 hI2)
theorem lc_again {n : Nat} (C : lH Γ κ L xs) (hi : i = iz (n : Int)) (hL : n + 6 ≤ L) (hI : Inv M) (h : ∀ M2, Inv M2 → lJ Γ κ i 1698 [] M2) : lJ Γ κ i 1675 [] M := by
  refine l_a1 (pc := 1675) (pc' := 1676) C dLw_1675 rfl ?_
  refine l_int (pc := 1676) (pc' := 1681) (j := 1) C hi (by omega) (by decide) dLw_1676 dLw_1677 dLw_1678 dLw_1679 dLw_1680 rfl ?_
  refine l_call (μ := 148) (cN := 9) (idx := 187) (pc := 1681) (pc' := 1684) (as := [zi (xs (n + 1))]) (rest := []) C rfl rfl rfl (by decide +kernel) (by decide) (zok_is (l := [xs (n + 1)])) rfl (zi5 174 (by decide +kernel) (by decide +kernel)) ⟨by decide +kernel, by decide +kernel⟩ (by decide) rfl dLw_1681 rfl (both_again  M (fun o M1 => ∃ r, o = some r ∧ kdV 0 r ∧ zEv Γ 253 (zo 10 0 0 :: [zi (xs (n + 1))]) M1 (fun o M2 => o = some r ∧ Inv M2)) hI (fun r M1 h1 h2 => ⟨r, rfl, h1, h2⟩)) (fun o M1 hq => ?_)
  obtain ⟨r, rfl, ⟨v, rfl⟩, hE⟩ := hq
  refine l_a2 (pc := 1684) (pc' := 1685) C dLw_1684 rfl ?_
  refine l_int (pc := 1685) (pc' := 1690) (j := 1) C hi (by omega) (by decide) dLw_1685 dLw_1686 dLw_1687 dLw_1688 dLw_1689 rfl ?_
  refine l_call (μ := 253) (cN := 10) (idx := 190) (pc := 1690) (pc' := 1693) (as := [zi (xs (n + 1))]) (rest := [.int v]) C rfl rfl rfl (by decide +kernel) (by decide) (zok_is (l := [xs (n + 1)])) rfl (zi7 218 (by decide +kernel) (by decide +kernel)) ⟨by decide +kernel, by decide +kernel⟩ (by show 1 ≤ 8; decide) rfl dLw_1690 rfl hE (fun o M2 hq => ?_)
  obtain ⟨rfl, hI2⟩ := hq
  exact l_eqI (pc := 1693) (tgt := 1698) C dLw_1693 rfl (h M2 hI2)
end Zb7
