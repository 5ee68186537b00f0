def zps90 : List (Nat × Nat) := [(4, 2014), (11, 2024)]
set_option maxRecDepth 100000 in
theorem zr90 : zrowsB (yX7_standOf, cX7_standOf, some .int, RX7) zps90 zxi90 30 = true := by decide +kernel
set_option maxRecDepth 100000 in
theorem zhc90 : zheadC 90 (zxi90, 2, 3, 7, 90, 0, 0, 1, 0) (yX7_standOf, cX7_standOf, some .int, RX7) 0 1008 3206 38 = true := by decide +kernel
set_option maxRecDepth 100000 in
theorem zh90 : zheadB 90 (zxi90, 2, 3, 7, 90, 0, 0, 1, 0) (yX7_standOf, cX7_standOf, some .int, RX7) 0 3207 1008 3206 38 = true := zheadB_of rfl zhc90
theorem zm90 : zOK 90 (zxi90, 2, 3, 7, 90, 0, 0, 1, 0) (yX7_standOf, cX7_standOf, some .int, RX7) := zOK_of2 (len := 30) zh90 zr90 (fun pc h => zguard h)
def zps91 : List (Nat × Nat) := [(2, 2032), (7, 2033), (14, 2014), (21, 1056), (25, 2020), (34, 1063), (56, 2033), (60, 2032), (67, 2033), (72, 2032), (78, 2032), (89, 1060), (98, 2023), (112, 2033)]
set_option maxRecDepth 100000 in
theorem zr91 : zrowsB (yX7_turnAll, cX7_turnAll, some .boolean, RX7) zps91 zxi91 124 = true := by decide +kernel
set_option maxRecDepth 100000 in
theorem zhc91 : zheadC 91 (zxi91, 3, 7, 7, 91, 0, 0, 2, 0) (yX7_turnAll, cX7_turnAll, some .boolean, RX7) 0 1008 4037 45 = true := by decide +kernel
set_option maxRecDepth 100000 in
theorem zh91 : zheadB 91 (zxi91, 3, 7, 7, 91, 0, 0, 2, 0) (yX7_turnAll, cX7_turnAll, some .boolean, RX7) 0 4038 1008 4037 45 = true := zheadB_of rfl zhc91
theorem zm91 : zOK 91 (zxi91, 3, 7, 7, 91, 0, 0, 2, 0) (yX7_turnAll, cX7_turnAll, some .boolean, RX7) := zOK_of2 (len := 124) zh91 zr91 (fun pc h => zguard h)
def zps92 : List (Nat × Nat) := [(9, 2033)]
set_option maxRecDepth 100000 in
theorem zr92 : zrowsB (yX7_leastClash, cX7_leastClash, some .int, RX7) zps92 zxi92 30 = true := by decide +kernel
set_option maxRecDepth 100000 in
theorem zhc92 : zheadC 92 (zxi92, 1, 2, 7, 92, 0, 0, 1, 0) (yX7_leastClash, cX7_leastClash, some .int, RX7) 0 1008 4227 74 = true := by decide +kernel
set_option maxRecDepth 100000 in
theorem zh92 : zheadB 92 (zxi92, 1, 2, 7, 92, 0, 0, 1, 0) (yX7_leastClash, cX7_leastClash, some .int, RX7) 0 4228 1008 4227 74 = true := zheadB_of rfl zhc92
theorem zm92 : zOK 92 (zxi92, 1, 2, 7, 92, 0, 0, 1, 0) (yX7_leastClash, cX7_leastClash, some .int, RX7) := zOK_of2 (len := 30) zh92 zr92 (fun pc h => zguard h)
def zps93 : List (Nat × Nat) := [(2, 2027), (9, 2014), (16, 2025), (21, 2024), (47, 2014), (55, 2023), (59, 2025), (65, 2180), (70, 2023), (74, 2025), (82, 2180), (91, 4043), (98, 4051)]
set_option maxRecDepth 100000 in
theorem zr93 : zrowsB (yX7_weave, cX7_weave, none, RX7) zps93 zxi93 115 = true := by decide +kernel
set_option maxRecDepth 100000 in
theorem zhc93 : zheadC 93 (zxi93, 2, 4, 7, 93, 0, 0, 0, 0) (yX7_weave, cX7_weave, none, RX7) 0 1008 4041 46 = true := by decide +kernel
set_option maxRecDepth 100000 in
theorem zh93 : zheadB 93 (zxi93, 2, 4, 7, 93, 0, 0, 0, 0) (yX7_weave, cX7_weave, none, RX7) 0 4042 1008 4041 46 = true := zheadB_of rfl zhc93
theorem zm93 : zOK 93 (zxi93, 2, 4, 7, 93, 0, 0, 0, 0) (yX7_weave, cX7_weave, none, RX7) := zOK_of2 (len := 115) zh93 zr93 (fun pc h => zguard h)
def zps94 : List (Nat × Nat) := [(1, 2025), (8, 2025), (18, 2027), (22, 2026), (30, 2026), (34, 2027), (42, 4047), (61, 2027), (66, 2027), (70, 2025), (78, 2025)]
set_option maxRecDepth 100000 in
theorem zr94 : zrowsB (yX7_exchange, cX7_exchange, none, RX7) zps94 zxi94 87 = true := by decide +kernel
set_option maxRecDepth 100000 in
theorem zhc94 : zheadC 94 (zxi94, 3, 5, 7, 94, 0, 0, 0, 0) (yX7_exchange, cX7_exchange, none, RX7) 0 1008 4045 47 = true := by decide +kernel
set_option maxRecDepth 100000 in
theorem zh94 : zheadB 94 (zxi94, 3, 5, 7, 94, 0, 0, 0, 0) (yX7_exchange, cX7_exchange, none, RX7) 0 4046 1008 4045 47 = true := zheadB_of rfl zhc94
theorem zm94 : zOK 94 (zxi94, 3, 5, 7, 94, 0, 0, 0, 0) (yX7_exchange, cX7_exchange, none, RX7) := zOK_of2 (len := 87) zh94 zr94 (fun pc h => zguard h)
def zps95 : List (Nat × Nat) := [(1, 1068), (5, 2020), (12, 1068), (16, 2023), (26, 1068), (30, 2020), (37, 1068), (41, 2023)]
set_option maxRecDepth 100000 in
theorem zr95 : zrowsB (yX7_isInFront, cX7_isInFront, some .boolean, RX7) zps95 zxi95 75 = true := by decide +kernel
set_option maxRecDepth 100000 in
theorem zhc95 : zheadC 95 (zxi95, 4, 6, 7, 95, 0, 0, 2, 0) (yX7_isInFront, cX7_isInFront, some .boolean, RX7) 0 1008 4049 48 = true := by decide +kernel
set_option maxRecDepth 100000 in
theorem zh95 : zheadB 95 (zxi95, 4, 6, 7, 95, 0, 0, 2, 0) (yX7_isInFront, cX7_isInFront, some .boolean, RX7) 0 4050 1008 4049 48 = true := zheadB_of rfl zhc95
theorem zm95 : zOK 95 (zxi95, 4, 6, 7, 95, 0, 0, 2, 0) (yX7_isInFront, cX7_isInFront, some .boolean, RX7) := zOK_of2 (len := 75) zh95 zr95 (fun pc h => zguard h)
def zps96 : List (Nat × Nat) := [(4, 2014), (11, 2020), (16, 2023), (30, 2016), (35, 2016)]
set_option maxRecDepth 100000 in
theorem zr96 : zrowsB (yX7_settle, cX7_settle, none, RX7) zps96 zxi96 39 = true := by decide +kernel
set_option maxRecDepth 100000 in
theorem zhc96 : zheadC 96 (zxi96, 1, 2, 7, 96, 0, 0, 0, 0) (yX7_settle, cX7_settle, none, RX7) 0 1008 4054 49 = true := by decide +kernel
set_option maxRecDepth 100000 in
theorem zh96 : zheadB 96 (zxi96, 1, 2, 7, 96, 0, 0, 0, 0) (yX7_settle, cX7_settle, none, RX7) 0 4055 1008 4054 49 = true := zheadB_of rfl zhc96
theorem zm96 : zOK 96 (zxi96, 1, 2, 7, 96, 0, 0, 0, 0) (yX7_settle, cX7_settle, none, RX7) := zOK_of2 (len := 39) zh96 zr96 (fun pc h => zguard h)
def zps97 : List (Nat × Nat) := [(4, 2014), (11, 2024), (16, 2025), (32, 2027), (39, 2029), (43, 2026), (48, 4060)]
set_option maxRecDepth 100000 in
theorem zr97 : zrowsB (yX7_keepWoven, cX7_keepWoven, none, RX7) zps97 zxi97 58 = true := by decide +kernel
set_option maxRecDepth 100000 in
theorem zhc97 : zheadC 97 (zxi97, 1, 2, 7, 97, 0, 0, 0, 0) (yX7_keepWoven, cX7_keepWoven, none, RX7) 0 1008 4058 50 = true := by decide +kernel
set_option maxRecDepth 100000 in
theorem zh97 : zheadB 97 (zxi97, 1, 2, 7, 97, 0, 0, 0, 0) (yX7_keepWoven, cX7_keepWoven, none, RX7) 0 4059 1008 4058 50 = true := zheadB_of rfl zhc97
theorem zm97 : zOK 97 (zxi97, 1, 2, 7, 97, 0, 0, 0, 0) (yX7_keepWoven, cX7_keepWoven, none, RX7) := zOK_of2 (len := 58) zh97 zr97 (fun pc h => zguard h)
def zps98 : List (Nat × Nat) := [(13, 2016), (16, 4222), (28, 4223), (38, 5204), (42, 4224), (46, 5205)]
set_option maxRecDepth 100000 in
theorem zr98 : zrowsB (yX7_runAll, cX7_runAll, some .boolean, RX7) zps98 zxi98 57 = true := by decide +kernel
set_option maxRecDepth 100000 in
theorem zhc98 : zheadC 98 (zxi98, 6, 7, 7, 98, 0, 0, 2, 0) (yX7_runAll, cX7_runAll, some .boolean, RX7) 0 1008 5202 113 = true := by decide +kernel
set_option maxRecDepth 100000 in
theorem zh98 : zheadB 98 (zxi98, 6, 7, 7, 98, 0, 0, 2, 0) (yX7_runAll, cX7_runAll, some .boolean, RX7) 0 5203 1008 5202 113 = true := zheadB_of rfl zhc98
theorem zm98 : zOK 98 (zxi98, 6, 7, 7, 98, 0, 0, 2, 0) (yX7_runAll, cX7_runAll, some .boolean, RX7) := zOK_of2 (len := 57) zh98 zr98 (fun pc h => zguard h)
def zps99 : List (Nat × Nat) := [(13, 2016), (16, 4222), (20, 4223), (28, 4224)]
set_option maxRecDepth 100000 in
theorem zr99 : zrowsB (yX7_chase, cX7_chase, none, RX7) zps99 zxi99 38 = true := by decide +kernel
set_option maxRecDepth 100000 in
theorem zhc99 : zheadC 99 (zxi99, 3, 4, 7, 99, 0, 0, 0, 0) (yX7_chase, cX7_chase, none, RX7) 0 1008 4220 73 = true := by decide +kernel
set_option maxRecDepth 100000 in
theorem zh99 : zheadB 99 (zxi99, 3, 4, 7, 99, 0, 0, 0, 0) (yX7_chase, cX7_chase, none, RX7) 0 4221 1008 4220 73 = true := zheadB_of rfl zhc99
theorem zm99 : zOK 99 (zxi99, 3, 4, 7, 99, 0, 0, 0, 0) (yX7_chase, cX7_chase, none, RX7) := zOK_of2 (len := 38) zh99 zr99 (fun pc h => zguard h)
def zps100 : List (Nat × Nat) := [(6, 2014), (13, 1063), (17, 1056), (21, 2020)]
set_option maxRecDepth 100000 in
theorem zr100 : zrowsB (yX7_firstTurnedTo, cX7_firstTurnedTo, some .int, RX7) zps100 zxi100 44 = true := by decide +kernel
set_option maxRecDepth 100000 in
theorem zhc100 : zheadC 100 (zxi100, 4, 5, 7, 100, 0, 0, 1, 0) (yX7_firstTurnedTo, cX7_firstTurnedTo, some .int, RX7) 0 1008 5003 77 = true := by decide +kernel
set_option maxRecDepth 100000 in
theorem zh100 : zheadB 100 (zxi100, 4, 5, 7, 100, 0, 0, 1, 0) (yX7_firstTurnedTo, cX7_firstTurnedTo, some .int, RX7) 0 5004 1008 5003 77 = true := zheadB_of rfl zhc100
theorem zm100 : zOK 100 (zxi100, 4, 5, 7, 100, 0, 0, 1, 0) (yX7_firstTurnedTo, cX7_firstTurnedTo, some .int, RX7) := zOK_of2 (len := 44) zh100 zr100 (fun pc h => zguard h)
def zps101 : List (Nat × Nat) := [(1, 2110), (9, 2113), (17, 2114), (25, 2115)]
set_option maxRecDepth 100000 in
theorem zr101 : zrowsB (yX8_init, cX8_init, none, RX8) zps101 zxi101 29 = true := by decide +kernel
set_option maxRecDepth 100000 in
theorem zhc101 : zheadC 101 (zxi101, 1, 1, 8, 101, 3, 36, 0, 9) (yX8_init, cX8_init, none, RX8) 1 1011 2108 0 = true := by decide +kernel
set_option maxRecDepth 100000 in
theorem zh101 : zheadB 101 (zxi101, 1, 1, 8, 101, 3, 36, 0, 9) (yX8_init, cX8_init, none, RX8) 1 2109 1011 2108 0 = true := zheadB_of rfl zhc101
theorem zm101 : zOK 101 (zxi101, 1, 1, 8, 101, 3, 36, 0, 9) (yX8_init, cX8_init, none, RX8) := zOK_of2 (len := 29) zh101 zr101 (fun pc h => zguard h)
def zps102 : List (Nat × Nat) := [(1, 2113), (5, 2111), (11, 2114), (15, 2111), (21, 2115), (25, 2111), (32, 2111), (37, 2111)]
set_option maxRecDepth 100000 in
theorem zr102 : zrowsB (yX8_add, cX8_add, none, RX8) zps102 zxi102 41 = true := by decide +kernel
set_option maxRecDepth 100000 in
theorem zhc102 : zheadC 102 (zxi102, 4, 4, 8, 102, 0, 0, 0, 0) (yX8_add, cX8_add, none, RX8) 0 1011 5228 116 = true := by decide +kernel
set_option maxRecDepth 100000 in
theorem zh102 : zheadB 102 (zxi102, 4, 4, 8, 102, 0, 0, 0, 0) (yX8_add, cX8_add, none, RX8) 0 5229 1011 5228 116 = true := zheadB_of rfl zhc102
theorem zm102 : zOK 102 (zxi102, 4, 4, 8, 102, 0, 0, 0, 0) (yX8_add, cX8_add, none, RX8) := zOK_of2 (len := 41) zh102 zr102 (fun pc h => zguard h)
def zps103 : List (Nat × Nat) := [(6, 2111), (13, 2113), (23, 2113), (28, 2113), (38, 2113), (49, 2113), (56, 2114), (61, 2114), (68, 2115), (73, 2115), (90, 2111)]
set_option maxRecDepth 100000 in
theorem zr103 : zrowsB (yX8_drop, cX8_drop, none, RX8) zps103 zxi103 94 = true := by decide +kernel
set_option maxRecDepth 100000 in
theorem zhc103 : zheadC 103 (zxi103, 2, 4, 8, 103, 0, 0, 0, 0) (yX8_drop, cX8_drop, none, RX8) 0 1011 4012 42 = true := by decide +kernel
set_option maxRecDepth 100000 in
theorem zh103 : zheadB 103 (zxi103, 2, 4, 8, 103, 0, 0, 0, 0) (yX8_drop, cX8_drop, none, RX8) 0 4013 1011 4012 42 = true := zheadB_of rfl zhc103
theorem zm103 : zOK 103 (zxi103, 2, 4, 8, 103, 0, 0, 0, 0) (yX8_drop, cX8_drop, none, RX8) := zOK_of2 (len := 94) zh103 zr103 (fun pc h => zguard h)
def zps104 : List (Nat × Nat) := [(6, 2111), (14, 2114), (19, 6020)]
set_option maxRecDepth 100000 in
theorem zr104 : zrowsB (yX8_latest, cX8_latest, some .int, RX8) zps104 zxi104 31 = true := by decide +kernel
set_option maxRecDepth 100000 in
theorem zhc104 : zheadC 104 (zxi104, 1, 3, 8, 104, 0, 0, 1, 0) (yX8_latest, cX8_latest, some .int, RX8) 0 1011 6018 120 = true := by decide +kernel
set_option maxRecDepth 100000 in
theorem zh104 : zheadB 104 (zxi104, 1, 3, 8, 104, 0, 0, 1, 0) (yX8_latest, cX8_latest, some .int, RX8) 0 6019 1011 6018 120 = true := zheadB_of rfl zhc104
theorem zm104 : zOK 104 (zxi104, 1, 3, 8, 104, 0, 0, 1, 0) (yX8_latest, cX8_latest, some .int, RX8) := zOK_of2 (len := 31) zh104 zr104 (fun pc h => zguard h)
def zps105 : List (Nat × Nat) := [(4, 2111), (11, 2114), (17, 2017), (24, 2021), (28, 2113), (35, 2115)]
set_option maxRecDepth 100000 in
theorem zr105 : zrowsB (yX8_agree, cX8_agree, some .boolean, RX8) zps105 zxi105 53 = true := by decide +kernel
set_option maxRecDepth 100000 in
theorem zhc105 : zheadC 105 (zxi105, 2, 3, 8, 105, 0, 0, 2, 0) (yX8_agree, cX8_agree, some .boolean, RX8) 0 1011 6025 121 = true := by decide +kernel
set_option maxRecDepth 100000 in
theorem zh105 : zheadB 105 (zxi105, 2, 3, 8, 105, 0, 0, 2, 0) (yX8_agree, cX8_agree, some .boolean, RX8) 0 6026 1011 6025 121 = true := zheadB_of rfl zhc105
theorem zm105 : zOK 105 (zxi105, 2, 3, 8, 105, 0, 0, 2, 0) (yX8_agree, cX8_agree, some .boolean, RX8) := zOK_of2 (len := 53) zh105 zr105 (fun pc h => zguard h)
def zps106 : List (Nat × Nat) := [(1, 1104), (7, 1105), (12, 1108)]
set_option maxRecDepth 100000 in
theorem zr106 : zrowsB (yX9_init, cX9_init, none, RX9) zps106 zxi106 16 = true := by decide +kernel
set_option maxRecDepth 100000 in
theorem zhc106 : zheadC 106 (zxi106, 2, 2, 9, 106, 1, 300, 0, 10) (yX9_init, cX9_init, none, RX9) 1 1004 1102 0 = true := by decide +kernel
set_option maxRecDepth 100000 in
theorem zh106 : zheadB 106 (zxi106, 2, 2, 9, 106, 1, 300, 0, 10) (yX9_init, cX9_init, none, RX9) 1 1103 1004 1102 0 = true := zheadB_of rfl zhc106
theorem zm106 : zOK 106 (zxi106, 2, 2, 9, 106, 1, 300, 0, 10) (yX9_init, cX9_init, none, RX9) := zOK_of2 (len := 16) zh106 zr106 (fun pc h => zguard h)
def zps107 : List (Nat × Nat) := [(1, 1112), (5, 1108), (13, 1108), (17, 1112), (24, 1112), (29, 1112)]
set_option maxRecDepth 100000 in
theorem zr107 : zrowsB (yX9_add, cX9_add, none, RX9) zps107 zxi107 33 = true := by decide +kernel
set_option maxRecDepth 100000 in
theorem zhc107 : zheadC 107 (zxi107, 2, 2, 9, 107, 0, 0, 0, 0) (yX9_add, cX9_add, none, RX9) 0 1004 3147 30 = true := by decide +kernel
set_option maxRecDepth 100000 in
theorem zh107 : zheadB 107 (zxi107, 2, 2, 9, 107, 0, 0, 0, 0) (yX9_add, cX9_add, none, RX9) 0 3148 1004 3147 30 = true := zheadB_of rfl zhc107
theorem zm107 : zOK 107 (zxi107, 2, 2, 9, 107, 0, 0, 0, 0) (yX9_add, cX9_add, none, RX9) := zOK_of2 (len := 33) zh107 zr107 (fun pc h => zguard h)
def zps108 : List (Nat × Nat) := [(1, 1112), (5, 1108), (9, 4129)]
set_option maxRecDepth 100000 in
theorem zr108 : zrowsB (yX9_kept, cX9_kept, some .int, RX9) zps108 zxi108 13 = true := by decide +kernel
set_option maxRecDepth 100000 in
theorem zhc108 : zheadC 108 (zxi108, 1, 1, 9, 108, 0, 0, 1, 0) (yX9_kept, cX9_kept, some .int, RX9) 0 1004 4127 61 = true := by decide +kernel
set_option maxRecDepth 100000 in
theorem zh108 : zheadB 108 (zxi108, 1, 1, 9, 108, 0, 0, 1, 0) (yX9_kept, cX9_kept, some .int, RX9) 0 4128 1004 4127 61 = true := zheadB_of rfl zhc108
theorem zm108 : zOK 108 (zxi108, 1, 1, 9, 108, 0, 0, 1, 0) (yX9_kept, cX9_kept, some .int, RX9) := zOK_of2 (len := 13) zh108 zr108 (fun pc h => zguard h)
def zps109 : List (Nat × Nat) := [(4, 5043), (11, 1108), (16, 5055)]
set_option maxRecDepth 100000 in
theorem zr109 : zrowsB (yX9_fits, cX9_fits, some .boolean, RX9) zps109 zxi109 33 = true := by decide +kernel
set_option maxRecDepth 100000 in
theorem zhc109 : zheadC 109 (zxi109, 2, 3, 9, 109, 0, 0, 2, 0) (yX9_fits, cX9_fits, some .boolean, RX9) 0 1004 5121 98 = true := by decide +kernel
set_option maxRecDepth 100000 in
theorem zh109 : zheadB 109 (zxi109, 2, 3, 9, 109, 0, 0, 2, 0) (yX9_fits, cX9_fits, some .boolean, RX9) 0 5122 1004 5121 98 = true := zheadB_of rfl zhc109
theorem zm109 : zOK 109 (zxi109, 2, 3, 9, 109, 0, 0, 2, 0) (yX9_fits, cX9_fits, some .boolean, RX9) := zOK_of2 (len := 33) zh109 zr109 (fun pc h => zguard h)
def zps110 : List (Nat × Nat) := [(6, 5043), (14, 1108)]
set_option maxRecDepth 100000 in
theorem zr110 : zrowsB (yX9_balance, cX9_balance, some .int, RX9) zps110 zxi110 37 = true := by decide +kernel
set_option maxRecDepth 100000 in
theorem zhc110 : zheadC 110 (zxi110, 1, 3, 9, 110, 0, 0, 1, 0) (yX9_balance, cX9_balance, some .int, RX9) 0 1004 5041 81 = true := by decide +kernel
set_option maxRecDepth 100000 in
theorem zh110 : zheadB 110 (zxi110, 1, 3, 9, 110, 0, 0, 1, 0) (yX9_balance, cX9_balance, some .int, RX9) 0 5042 1004 5041 81 = true := zheadB_of rfl zhc110
theorem zm110 : zOK 110 (zxi110, 1, 3, 9, 110, 0, 0, 1, 0) (yX9_balance, cX9_balance, some .int, RX9) := zOK_of2 (len := 37) zh110 zr110 (fun pc h => zguard h)
def zps111 : List (Nat × Nat) := [(1, 5055)]
set_option maxRecDepth 100000 in
theorem zr111 : zrowsB (yX9_passed, cX9_passed, some .int, RX9) zps111 zxi111 27 = true := by decide +kernel
set_option maxRecDepth 100000 in
theorem zhc111 : zheadC 111 (zxi111, 2, 3, 9, 111, 0, 0, 1, 0) (yX9_passed, cX9_passed, some .int, RX9) 2 1004 5053 0 = true := by decide +kernel
set_option maxRecDepth 100000 in
theorem zh111 : zheadB 111 (zxi111, 2, 3, 9, 111, 0, 0, 1, 0) (yX9_passed, cX9_passed, some .int, RX9) 2 5054 1004 5053 0 = true := zheadB_of rfl zhc111
theorem zm111 : zOK 111 (zxi111, 2, 3, 9, 111, 0, 0, 1, 0) (yX9_passed, cX9_passed, some .int, RX9) := zOK_of2 (len := 27) zh111 zr111 (fun pc h => zguard h)
def zps112 : List (Nat × Nat) := [(6, 5043), (14, 1108), (19, 5052)]
set_option maxRecDepth 100000 in
theorem zr112 : zrowsB (yX9_endOf, cX9_endOf, some .int, RX9) zps112 zxi112 31 = true := by decide +kernel
set_option maxRecDepth 100000 in
theorem zhc112 : zheadC 112 (zxi112, 2, 4, 9, 112, 0, 0, 1, 0) (yX9_endOf, cX9_endOf, some .int, RX9) 0 1004 5050 83 = true := by decide +kernel
set_option maxRecDepth 100000 in
theorem zh112 : zheadB 112 (zxi112, 2, 4, 9, 112, 0, 0, 1, 0) (yX9_endOf, cX9_endOf, some .int, RX9) 0 5051 1004 5050 83 = true := zheadB_of rfl zhc112
theorem zm112 : zOK 112 (zxi112, 2, 4, 9, 112, 0, 0, 1, 0) (yX9_endOf, cX9_endOf, some .int, RX9) := zOK_of2 (len := 31) zh112 zr112 (fun pc h => zguard h)
def zps113 : List (Nat × Nat) := [(57, 5048)]
set_option maxRecDepth 100000 in
theorem zr113 : zrowsB (yX9_loops, cX9_loops, some .int, RX9) zps113 zxi113 76 = true := by decide +kernel
set_option maxRecDepth 100000 in
theorem zhc113 : zheadC 113 (zxi113, 2, 7, 9, 113, 0, 0, 1, 0) (yX9_loops, cX9_loops, some .int, RX9) 0 1004 5046 82 = true := by decide +kernel
set_option maxRecDepth 100000 in
theorem zh113 : zheadB 113 (zxi113, 2, 7, 9, 113, 0, 0, 1, 0) (yX9_loops, cX9_loops, some .int, RX9) 0 5047 1004 5046 82 = true := zheadB_of rfl zhc113
theorem zm113 : zOK 113 (zxi113, 2, 7, 9, 113, 0, 0, 1, 0) (yX9_loops, cX9_loops, some .int, RX9) := zOK_of2 (len := 76) zh113 zr113 (fun pc h => zguard h)
def zps114 : List (Nat × Nat) := [(14, 5043), (21, 1108), (27, 5055), (35, 4129), (46, 1105), (59, 1108), (78, 1108), (84, 5052), (91, 1108), (97, 5052)]
set_option maxRecDepth 100000 in
theorem zr114 : zrowsB (yX9_changesOf, cX9_changesOf, some .int, RX9) zps114 zxi114 111 = true := by decide +kernel
set_option maxRecDepth 100000 in
theorem zhc114 : zheadC 114 (zxi114, 3, 8, 9, 114, 0, 0, 1, 0) (yX9_changesOf, cX9_changesOf, some .int, RX9) 0 1004 5154 104 = true := by decide +kernel
set_option maxRecDepth 100000 in
theorem zh114 : zheadB 114 (zxi114, 3, 8, 9, 114, 0, 0, 1, 0) (yX9_changesOf, cX9_changesOf, some .int, RX9) 0 5155 1004 5154 104 = true := zheadB_of rfl zhc114
theorem zm114 : zOK 114 (zxi114, 3, 8, 9, 114, 0, 0, 1, 0) (yX9_changesOf, cX9_changesOf, some .int, RX9) := zOK_of2 (len := 111) zh114 zr114 (fun pc h => zguard h)
def zps115 : List (Nat × Nat) := [(11, 5043), (19, 1108), (25, 5052), (42, 1108)]
set_option maxRecDepth 100000 in
theorem zr115 : zrowsB (yX9_partsOf, cX9_partsOf, some .int, RX9) zps115 zxi115 96 = true := by decide +kernel
set_option maxRecDepth 100000 in
theorem zhc115 : zheadC 115 (zxi115, 3, 8, 9, 115, 0, 0, 1, 0) (yX9_partsOf, cX9_partsOf, some .int, RX9) 0 1004 5162 105 = true := by decide +kernel
set_option maxRecDepth 100000 in
theorem zh115 : zheadB 115 (zxi115, 3, 8, 9, 115, 0, 0, 1, 0) (yX9_partsOf, cX9_partsOf, some .int, RX9) 0 5163 1004 5162 105 = true := zheadB_of rfl zhc115
theorem zm115 : zOK 115 (zxi115, 3, 8, 9, 115, 0, 0, 1, 0) (yX9_partsOf, cX9_partsOf, some .int, RX9) := zOK_of2 (len := 96) zh115 zr115 (fun pc h => zguard h)
def zps116 : List (Nat × Nat) := [(10, 5043), (18, 1108), (24, 5052), (30, 1105)]
set_option maxRecDepth 100000 in
theorem zr116 : zrowsB (yX9_greatestPlaceOf, cX9_greatestPlaceOf, some .int, RX9) zps116 zxi116 42 = true := by decide +kernel
set_option maxRecDepth 100000 in
theorem zhc116 : zheadC 116 (zxi116, 2, 5, 9, 116, 0, 0, 1, 0) (yX9_greatestPlaceOf, cX9_greatestPlaceOf, some .int, RX9) 0 1004 5166 106 = true := by decide +kernel
set_option maxRecDepth 100000 in
theorem zh116 : zheadB 116 (zxi116, 2, 5, 9, 116, 0, 0, 1, 0) (yX9_greatestPlaceOf, cX9_greatestPlaceOf, some .int, RX9) 0 5167 1004 5166 106 = true := zheadB_of rfl zhc116
theorem zm116 : zOK 116 (zxi116, 2, 5, 9, 116, 0, 0, 1, 0) (yX9_greatestPlaceOf, cX9_greatestPlaceOf, some .int, RX9) := zOK_of2 (len := 42) zh116 zr116 (fun pc h => zguard h)
def zps117 : List (Nat × Nat) := [(10, 5043), (18, 1108), (24, 5052), (30, 4129)]
set_option maxRecDepth 100000 in
theorem zr117 : zrowsB (yX9_leastPlaceOf, cX9_leastPlaceOf, some .int, RX9) zps117 zxi117 42 = true := by decide +kernel
set_option maxRecDepth 100000 in
theorem zhc117 : zheadC 117 (zxi117, 2, 5, 9, 117, 0, 0, 1, 0) (yX9_leastPlaceOf, cX9_leastPlaceOf, some .int, RX9) 0 1004 5170 107 = true := by decide +kernel
set_option maxRecDepth 100000 in
theorem zh117 : zheadB 117 (zxi117, 2, 5, 9, 117, 0, 0, 1, 0) (yX9_leastPlaceOf, cX9_leastPlaceOf, some .int, RX9) 0 5171 1004 5170 107 = true := zheadB_of rfl zhc117
theorem zm117 : zOK 117 (zxi117, 2, 5, 9, 117, 0, 0, 1, 0) (yX9_leastPlaceOf, cX9_leastPlaceOf, some .int, RX9) := zOK_of2 (len := 42) zh117 zr117 (fun pc h => zguard h)
def zps118 : List (Nat × Nat) := [(1, 1023), (5, 1026), (9, 1028), (12, 2185), (16, 1026), (20, 1028), (23, 2186), (27, 1187), (31, 1189), (34, 2187), (38, 1225), (42, 1227), (45, 2188), (49, 2006), (53, 2008), (56, 2189), (60, 2006), (64, 2008), (67, 2190), (75, 2191), (79, 2057), (83, 2059), (86, 2192), (90, 2089), (94, 2091), (97, 2193), (101, 2089), (105, 2091), (108, 2194), (112, 2105), (116, 2107), (119, 2195), (123, 2125), (127, 2127), (130, 2196), (134, 2185), (139, 2152), (143, 2189), (147, 2185), (150, 2172)]
set_option maxRecDepth 100000 in
theorem zr118 : zrowsB (yX10_init, cX10_init, none, RX10) zps118 zxi118 154 = true := by decide +kernel
set_option maxRecDepth 100000 in
theorem zhc118 : zheadC 118 (zxi118, 1, 1, 10, 118, 73, 9192, 0, 11) (yX10_init, cX10_init, none, RX10) 1 1001 1021 0 = true := by decide +kernel
set_option maxRecDepth 100000 in
theorem zh118 : zheadB 118 (zxi118, 1, 1, 10, 118, 73, 9192, 0, 11) (yX10_init, cX10_init, none, RX10) 1 1022 1001 1021 0 = true := zheadB_of rfl zhc118
theorem zm118 : zOK 118 (zxi118, 1, 1, 10, 118, 73, 9192, 0, 11) (yX10_init, cX10_init, none, RX10) := zOK_of2 (len := 154) zh118 zr118 (fun pc h => zguard h)
def zps119 : List (Nat × Nat) := [(1, 2184)]
set_option maxRecDepth 100000 in
theorem zr119 : zrowsB (yX10_status, cX10_status, some .int, RX10) zps119 zxi119 5 = true := by decide +kernel
set_option maxRecDepth 100000 in
theorem zhc119 : zheadC 119 (zxi119, 1, 1, 10, 119, 0, 0, 1, 0) (yX10_status, cX10_status, some .int, RX10) 0 1001 2225 2226 = true := by decide +kernel
set_option maxRecDepth 100000 in
theorem zh119 : zheadB 119 (zxi119, 1, 1, 10, 119, 0, 0, 1, 0) (yX10_status, cX10_status, some .int, RX10) 0 2227 1001 2225 2226 = true := zheadB_of rfl zhc119
theorem zm119 : zOK 119 (zxi119, 1, 1, 10, 119, 0, 0, 1, 0) (yX10_status, cX10_status, some .int, RX10) := zOK_of2 (len := 5) zh119 zr119 (fun pc h => zguard h)
def zps120 : List (Nat × Nat) := [(1, 2187), (4, 1195), (19, 2187), (23, 2232), (27, 2187), (31, 2232), (35, 2187), (39, 2232), (43, 2187), (48, 2232), (52, 2187), (57, 2232), (61, 2187), (64, 1195)]
set_option maxRecDepth 100000 in
theorem zr120 : zrowsB (yX10_feed, cX10_feed, some .int, RX10) zps120 zxi120 68 = true := by decide +kernel
set_option maxRecDepth 100000 in
theorem zhc120 : zheadC 120 (zxi120, 6, 6, 10, 120, 0, 0, 1, 0) (yX10_feed, cX10_feed, some .int, RX10) 0 1001 2229 2230 = true := by decide +kernel
set_option maxRecDepth 100000 in
theorem zh120 : zheadB 120 (zxi120, 6, 6, 10, 120, 0, 0, 1, 0) (yX10_feed, cX10_feed, some .int, RX10) 0 2231 1001 2229 2230 = true := zheadB_of rfl zhc120
theorem zm120 : zOK 120 (zxi120, 6, 6, 10, 120, 0, 0, 1, 0) (yX10_feed, cX10_feed, some .int, RX10) := zOK_of2 (len := 68) zh120 zr120 (fun pc h => zguard h)
def zps121 : List (Nat × Nat) := [(6, 2187), (9, 1195), (17, 3000), (22, 2187), (27, 2186), (30, 3004), (39, 3000), (44, 2186), (50, 2185), (53, 2186), (58, 2185), (62, 2189), (66, 2185), (69, 2172), (73, 2195), (77, 2112), (81, 2188), (85, 1234), (90, 2185), (93, 1127), (96, 1046), (99, 3149)]
set_option maxRecDepth 100000 in
theorem zr121 : zrowsB (yX10_load, cX10_load, some .int, RX10) zps121 zxi121 103 = true := by decide +kernel
set_option maxRecDepth 100000 in
theorem zhc121 : zheadC 121 (zxi121, 2, 3, 10, 121, 0, 0, 1, 0) (yX10_load, cX10_load, some .int, RX10) 0 1001 2237 2238 = true := by decide +kernel
set_option maxRecDepth 100000 in
theorem zh121 : zheadB 121 (zxi121, 2, 3, 10, 121, 0, 0, 1, 0) (yX10_load, cX10_load, some .int, RX10) 0 2239 1001 2237 2238 = true := zheadB_of rfl zhc121
theorem zm121 : zOK 121 (zxi121, 2, 3, 10, 121, 0, 0, 1, 0) (yX10_load, cX10_load, some .int, RX10) := zOK_of2 (len := 103) zh121 zr121 (fun pc h => zguard h)
def zps122 : List (Nat × Nat) := [(5, 2187), (8, 1197), (18, 2187), (21, 1199)]
set_option maxRecDepth 100000 in
theorem zr122 : zrowsB (yX10_fault, cX10_fault, some .int, RX10) zps122 zxi122 29 = true := by decide +kernel
set_option maxRecDepth 100000 in
theorem zhc122 : zheadC 122 (zxi122, 2, 2, 10, 122, 0, 0, 1, 0) (yX10_fault, cX10_fault, some .int, RX10) 0 1001 3154 3155 = true := by decide +kernel
set_option maxRecDepth 100000 in
theorem zh122 : zheadB 122 (zxi122, 2, 2, 10, 122, 0, 0, 1, 0) (yX10_fault, cX10_fault, some .int, RX10) 0 3156 1001 3154 3155 = true := zheadB_of rfl zhc122
theorem zm122 : zOK 122 (zxi122, 2, 2, 10, 122, 0, 0, 1, 0) (yX10_fault, cX10_fault, some .int, RX10) := zOK_of2 (len := 29) zh122 zr122 (fun pc h => zguard h)
def zps123 : List (Nat × Nat) := [(66, 2185), (69, 1127), (72, 1040), (75, 3149), (81, 2185), (84, 1127), (87, 1043), (90, 3149), (96, 2185), (99, 1127), (102, 1052), (105, 3149), (111, 2185), (114, 1127), (117, 1046), (120, 3149), (126, 2185), (129, 1148), (132, 3149), (138, 2189), (141, 2019), (144, 3149), (150, 2189), (153, 2030), (156, 1115), (159, 3149), (165, 2185), (168, 3161), (171, 3149), (177, 2185), (180, 3162), (183, 3149), (189, 2185), (192, 3166), (195, 3149), (201, 2195), (204, 2112), (207, 3149), (213, 2185), (216, 1160), (223, 2185), (226, 1164), (229, 1115), (236, 3149), (242, 3000)]
set_option maxRecDepth 100000 in
theorem zr123 : zrowsB (yX10_many, cX10_many, some .int, RX10) zps123 zxi123 246 = true := by decide +kernel
set_option maxRecDepth 100000 in
theorem zhc123 : zheadC 123 (zxi123, 2, 2, 10, 123, 0, 0, 1, 0) (yX10_many, cX10_many, some .int, RX10) 0 1001 3158 3159 = true := by decide +kernel
set_option maxRecDepth 100000 in
theorem zh123 : zheadB 123 (zxi123, 2, 2, 10, 123, 0, 0, 1, 0) (yX10_many, cX10_many, some .int, RX10) 0 3160 1001 3158 3159 = true := zheadB_of rfl zhc123
theorem zm123 : zOK 123 (zxi123, 2, 2, 10, 123, 0, 0, 1, 0) (yX10_many, cX10_many, some .int, RX10) := zOK_of2 (len := 246) zh123 zr123 (fun pc h => zguard h)
def zps124 : List (Nat × Nat) := [(11, 3000), (17, 3177), (25, 3000), (66, 2185), (69, 1136), (74, 3149), (80, 2185), (85, 2189), (88, 2019), (91, 3181), (102, 3149), (108, 2185), (111, 1139), (116, 3149), (122, 2185), (125, 1143), (138, 3149), (144, 2185), (147, 1127), (150, 1071), (155, 3149), (161, 2185), (164, 1127), (167, 1074), (172, 3149)]
set_option maxRecDepth 100000 in
theorem zr124 : zrowsB (yX10_gate, cX10_gate, some .int, RX10) zps124 zxi124 176 = true := by decide +kernel
set_option maxRecDepth 100000 in
theorem zhc124 : zheadC 124 (zxi124, 3, 3, 10, 124, 0, 0, 1, 0) (yX10_gate, cX10_gate, some .int, RX10) 0 1001 3174 3175 = true := by decide +kernel
set_option maxRecDepth 100000 in
theorem zh124 : zheadB 124 (zxi124, 3, 3, 10, 124, 0, 0, 1, 0) (yX10_gate, cX10_gate, some .int, RX10) 0 3176 1001 3174 3175 = true := zheadB_of rfl zhc124
theorem zm124 : zOK 124 (zxi124, 3, 3, 10, 124, 0, 0, 1, 0) (yX10_gate, cX10_gate, some .int, RX10) := zOK_of2 (len := 176) zh124 zr124 (fun pc h => zguard h)
def zps125 : List (Nat × Nat) := [(6, 3000), (12, 3177), (20, 3000), (26, 2185), (29, 1136), (39, 3000), (45, 2185), (48, 1132), (57, 3149)]
set_option maxRecDepth 100000 in
theorem zr125 : zrowsB (yX10_bit, cX10_bit, some .int, RX10) zps125 zxi125 61 = true := by decide +kernel
set_option maxRecDepth 100000 in
theorem zhc125 : zheadC 125 (zxi125, 3, 3, 10, 125, 0, 0, 1, 0) (yX10_bit, cX10_bit, some .int, RX10) 0 1001 3193 3194 = true := by decide +kernel
set_option maxRecDepth 100000 in
theorem zh125 : zheadB 125 (zxi125, 3, 3, 10, 125, 0, 0, 1, 0) (yX10_bit, cX10_bit, some .int, RX10) 0 3195 1001 3193 3194 = true := zheadB_of rfl zhc125
theorem zm125 : zOK 125 (zxi125, 3, 3, 10, 125, 0, 0, 1, 0) (yX10_bit, cX10_bit, some .int, RX10) := zOK_of2 (len := 61) zh125 zr125 (fun pc h => zguard h)
def zps126 : List (Nat × Nat) := [(11, 3000), (17, 3200), (25, 3000), (66, 2189), (69, 2022), (74, 3149), (80, 2185), (83, 1127), (86, 1065), (90, 2189), (93, 2022), (99, 3149), (105, 2185), (108, 1127), (111, 1067), (115, 2189), (118, 2022), (124, 3149), (130, 2185), (133, 1153), (138, 3149), (144, 2189), (148, 3204), (151, 3149), (157, 2185), (160, 1156), (165, 3149)]
set_option maxRecDepth 100000 in
theorem zr126 : zrowsB (yX10_bobbin, cX10_bobbin, some .int, RX10) zps126 zxi126 169 = true := by decide +kernel
set_option maxRecDepth 100000 in
theorem zhc126 : zheadC 126 (zxi126, 3, 3, 10, 126, 0, 0, 1, 0) (yX10_bobbin, cX10_bobbin, some .int, RX10) 0 1001 3197 3198 = true := by decide +kernel
set_option maxRecDepth 100000 in
theorem zh126 : zheadB 126 (zxi126, 3, 3, 10, 126, 0, 0, 1, 0) (yX10_bobbin, cX10_bobbin, some .int, RX10) 0 3199 1001 3197 3198 = true := zheadB_of rfl zhc126
theorem zm126 : zOK 126 (zxi126, 3, 3, 10, 126, 0, 0, 1, 0) (yX10_bobbin, cX10_bobbin, some .int, RX10) := zOK_of2 (len := 169) zh126 zr126 (fun pc h => zguard h)
def zps127 : List (Nat × Nat) := [(2, 3212), (10, 3000), (15, 2189), (19, 3216), (30, 3000), (38, 3149)]
set_option maxRecDepth 100000 in
theorem zr127 : zrowsB (yX10_at, cX10_at, some .int, RX10) zps127 zxi127 42 = true := by decide +kernel
set_option maxRecDepth 100000 in
theorem zhc127 : zheadC 127 (zxi127, 2, 3, 10, 127, 0, 0, 1, 0) (yX10_at, cX10_at, some .int, RX10) 0 1001 3209 3210 = true := by decide +kernel
set_option maxRecDepth 100000 in
theorem zh127 : zheadB 127 (zxi127, 2, 3, 10, 127, 0, 0, 1, 0) (yX10_at, cX10_at, some .int, RX10) 0 3211 1001 3209 3210 = true := zheadB_of rfl zhc127
theorem zm127 : zOK 127 (zxi127, 2, 3, 10, 127, 0, 0, 1, 0) (yX10_at, cX10_at, some .int, RX10) := zOK_of2 (len := 42) zh127 zr127 (fun pc h => zguard h)
def zps128 : List (Nat × Nat) := [(2, 3212), (10, 3000), (15, 2185), (18, 1127), (21, 1061), (34, 3000), (42, 3149)]
set_option maxRecDepth 100000 in
theorem zr128 : zrowsB (yX10_faces, cX10_faces, some .int, RX10) zps128 zxi128 46 = true := by decide +kernel
set_option maxRecDepth 100000 in
theorem zhc128 : zheadC 128 (zxi128, 2, 3, 10, 128, 0, 0, 1, 0) (yX10_faces, cX10_faces, some .int, RX10) 0 1001 3221 3222 = true := by decide +kernel
set_option maxRecDepth 100000 in
theorem zh128 : zheadB 128 (zxi128, 2, 3, 10, 128, 0, 0, 1, 0) (yX10_faces, cX10_faces, some .int, RX10) 0 3223 1001 3221 3222 = true := zheadB_of rfl zhc128
theorem zm128 : zOK 128 (zxi128, 2, 3, 10, 128, 0, 0, 1, 0) (yX10_faces, cX10_faces, some .int, RX10) := zOK_of2 (len := 46) zh128 zr128 (fun pc h => zguard h)
def zps129 : List (Nat × Nat) := [(22, 3000), (28, 3177), (36, 3000), (41, 2185), (44, 1132), (54, 2185), (57, 1136), (68, 3000), (73, 2185), (76, 1132), (83, 2185), (86, 1136), (94, 3149)]
set_option maxRecDepth 100000 in
theorem zr129 : zrowsB (yX10_program, cX10_program, some .int, RX10) zps129 zxi129 98 = true := by decide +kernel
set_option maxRecDepth 100000 in
theorem zhc129 : zheadC 129 (zxi129, 4, 4, 10, 129, 0, 0, 1, 0) (yX10_program, cX10_program, some .int, RX10) 0 1001 3225 3226 = true := by decide +kernel
set_option maxRecDepth 100000 in
theorem zh129 : zheadB 129 (zxi129, 4, 4, 10, 129, 0, 0, 1, 0) (yX10_program, cX10_program, some .int, RX10) 0 3227 1001 3225 3226 = true := zheadB_of rfl zhc129
theorem zm129 : zOK 129 (zxi129, 4, 4, 10, 129, 0, 0, 1, 0) (yX10_program, cX10_program, some .int, RX10) := zOK_of2 (len := 98) zh129 zr129 (fun pc h => zguard h)
def zps130 : List (Nat × Nat) := [(11, 3000), (17, 3177), (25, 3000), (30, 2185), (33, 1139), (46, 3000), (51, 2185), (54, 1139), (62, 3149)]
set_option maxRecDepth 100000 in
theorem zr130 : zrowsB (yX10_stick, cX10_stick, some .int, RX10) zps130 zxi130 66 = true := by decide +kernel
set_option maxRecDepth 100000 in
theorem zhc130 : zheadC 130 (zxi130, 3, 4, 10, 130, 0, 0, 1, 0) (yX10_stick, cX10_stick, some .int, RX10) 0 1001 3229 3230 = true := by decide +kernel
set_option maxRecDepth 100000 in
theorem zh130 : zheadB 130 (zxi130, 3, 4, 10, 130, 0, 0, 1, 0) (yX10_stick, cX10_stick, some .int, RX10) 0 3231 1001 3229 3230 = true := zheadB_of rfl zhc130
theorem zm130 : zOK 130 (zxi130, 3, 4, 10, 130, 0, 0, 1, 0) (yX10_stick, cX10_stick, some .int, RX10) := zOK_of2 (len := 66) zh130 zr130 (fun pc h => zguard h)
def zps131 : List (Nat × Nat) := [(2, 3177), (10, 3000), (15, 2185), (18, 1143), (29, 3000), (38, 2185), (41, 3161), (51, 3000), (56, 2185), (59, 1143), (67, 2185), (70, 3161), (73, 3149)]
set_option maxRecDepth 100000 in
theorem zr131 : zrowsB (yX10_free, cX10_free, some .int, RX10) zps131 zxi131 77 = true := by decide +kernel
set_option maxRecDepth 100000 in
theorem zhc131 : zheadC 131 (zxi131, 3, 3, 10, 131, 0, 0, 1, 0) (yX10_free, cX10_free, some .int, RX10) 0 1001 3233 3234 = true := by decide +kernel
set_option maxRecDepth 100000 in
theorem zh131 : zheadB 131 (zxi131, 3, 3, 10, 131, 0, 0, 1, 0) (yX10_free, cX10_free, some .int, RX10) 0 3235 1001 3233 3234 = true := zheadB_of rfl zhc131
theorem zm131 : zOK 131 (zxi131, 3, 3, 10, 131, 0, 0, 1, 0) (yX10_free, cX10_free, some .int, RX10) := zOK_of2 (len := 77) zh131 zr131 (fun pc h => zguard h)
def zps132 : List (Nat × Nat) := [(2, 3212), (10, 3000), (15, 2185), (18, 1148), (28, 3000), (33, 2185), (37, 4000), (45, 3000), (50, 2189), (53, 2019), (62, 3000), (67, 2185), (71, 4001), (75, 2189), (79, 2185), (82, 2172), (87, 2185), (90, 1148), (95, 3149)]
set_option maxRecDepth 100000 in
theorem zr132 : zrowsB (yX10_put, cX10_put, some .int, RX10) zps132 zxi132 99 = true := by decide +kernel
set_option maxRecDepth 100000 in
theorem zhc132 : zheadC 132 (zxi132, 2, 2, 10, 132, 0, 0, 1, 0) (yX10_put, cX10_put, some .int, RX10) 0 1001 3237 3238 = true := by decide +kernel
set_option maxRecDepth 100000 in
theorem zh132 : zheadB 132 (zxi132, 2, 2, 10, 132, 0, 0, 1, 0) (yX10_put, cX10_put, some .int, RX10) 0 3239 1001 3237 3238 = true := zheadB_of rfl zhc132
theorem zm132 : zOK 132 (zxi132, 2, 2, 10, 132, 0, 0, 1, 0) (yX10_put, cX10_put, some .int, RX10) := zOK_of2 (len := 99) zh132 zr132 (fun pc h => zguard h)
def zps133 : List (Nat × Nat) := [(2, 3200), (10, 3000), (15, 2189), (18, 2019), (27, 3000), (32, 2185), (36, 4006), (40, 2195), (44, 4010), (48, 2189), (52, 2185), (55, 2172), (60, 2185), (63, 1148), (66, 3149)]
set_option maxRecDepth 100000 in
theorem zr133 : zrowsB (yX10_take, cX10_take, some .int, RX10) zps133 zxi133 70 = true := by decide +kernel
set_option maxRecDepth 100000 in
theorem zhc133 : zheadC 133 (zxi133, 2, 2, 10, 133, 0, 0, 1, 0) (yX10_take, cX10_take, some .int, RX10) 0 1001 4003 4004 = true := by decide +kernel
set_option maxRecDepth 100000 in
theorem zh133 : zheadB 133 (zxi133, 2, 2, 10, 133, 0, 0, 1, 0) (yX10_take, cX10_take, some .int, RX10) 0 4005 1001 4003 4004 = true := zheadB_of rfl zhc133
theorem zm133 : zOK 133 (zxi133, 2, 2, 10, 133, 0, 0, 1, 0) (yX10_take, cX10_take, some .int, RX10) := zOK_of2 (len := 70) zh133 zr133 (fun pc h => zguard h)
def zps134 : List (Nat × Nat) := [(7, 3000), (13, 3200), (21, 2185), (24, 1127), (27, 1046), (35, 3000), (40, 2185), (43, 1156), (56, 3000), (61, 2185), (64, 1156), (72, 3149)]
set_option maxRecDepth 100000 in
theorem zr134 : zrowsB (yX10_wish, cX10_wish, some .int, RX10) zps134 zxi134 76 = true := by decide +kernel
set_option maxRecDepth 100000 in
theorem zhc134 : zheadC 134 (zxi134, 3, 4, 10, 134, 0, 0, 1, 0) (yX10_wish, cX10_wish, some .int, RX10) 0 1001 4015 4016 = true := by decide +kernel
set_option maxRecDepth 100000 in
theorem zh134 : zheadB 134 (zxi134, 3, 4, 10, 134, 0, 0, 1, 0) (yX10_wish, cX10_wish, some .int, RX10) 0 4017 1001 4015 4016 = true := zheadB_of rfl zhc134
theorem zm134 : zOK 134 (zxi134, 3, 4, 10, 134, 0, 0, 1, 0) (yX10_wish, cX10_wish, some .int, RX10) := zOK_of2 (len := 76) zh134 zr134 (fun pc h => zguard h)
def zps135 : List (Nat × Nat) := [(13, 3000), (18, 2185), (22, 2191), (25, 4022), (46, 4027), (69, 3000), (77, 3149)]
set_option maxRecDepth 100000 in
theorem zr135 : zrowsB (yX10_step, cX10_step, some .int, RX10) zps135 zxi135 81 = true := by decide +kernel
set_option maxRecDepth 100000 in
theorem zhc135 : zheadC 135 (zxi135, 2, 5, 10, 135, 0, 0, 1, 0) (yX10_step, cX10_step, some .int, RX10) 0 1001 4019 4020 = true := by decide +kernel
set_option maxRecDepth 100000 in
theorem zh135 : zheadB 135 (zxi135, 2, 5, 10, 135, 0, 0, 1, 0) (yX10_step, cX10_step, some .int, RX10) 0 4021 1001 4019 4020 = true := zheadB_of rfl zhc135
theorem zm135 : zOK 135 (zxi135, 2, 5, 10, 135, 0, 0, 1, 0) (yX10_step, cX10_step, some .int, RX10) := zOK_of2 (len := 81) zh135 zr135 (fun pc h => zguard h)
def zps136 : List (Nat × Nat) := [(1, 2189), (4, 2019), (9, 2189), (13, 2185), (16, 2172), (21, 3149)]
set_option maxRecDepth 100000 in
theorem zr136 : zrowsB (yX10_reset, cX10_reset, some .int, RX10) zps136 zxi136 25 = true := by decide +kernel
set_option maxRecDepth 100000 in
theorem zhc136 : zheadC 136 (zxi136, 1, 2, 10, 136, 0, 0, 1, 0) (yX10_reset, cX10_reset, some .int, RX10) 0 1001 4062 4063 = true := by decide +kernel
set_option maxRecDepth 100000 in
theorem zh136 : zheadB 136 (zxi136, 1, 2, 10, 136, 0, 0, 1, 0) (yX10_reset, cX10_reset, some .int, RX10) 0 4064 1001 4062 4063 = true := zheadB_of rfl zhc136
theorem zm136 : zOK 136 (zxi136, 1, 2, 10, 136, 0, 0, 1, 0) (yX10_reset, cX10_reset, some .int, RX10) := zOK_of2 (len := 25) zh136 zr136 (fun pc h => zguard h)
def zps137 : List (Nat × Nat) := [(1, 2189), (4, 2030), (7, 1115), (12, 2189), (15, 2030), (19, 1115), (24, 3149)]
set_option maxRecDepth 100000 in
theorem zr137 : zrowsB (yX10_cut, cX10_cut, some .int, RX10) zps137 zxi137 28 = true := by decide +kernel
set_option maxRecDepth 100000 in
theorem zhc137 : zheadC 137 (zxi137, 1, 2, 10, 137, 0, 0, 1, 0) (yX10_cut, cX10_cut, some .int, RX10) 0 1001 4066 4067 = true := by decide +kernel
set_option maxRecDepth 100000 in
theorem zh137 : zheadB 137 (zxi137, 1, 2, 10, 137, 0, 0, 1, 0) (yX10_cut, cX10_cut, some .int, RX10) 0 4068 1001 4066 4067 = true := zheadB_of rfl zhc137
theorem zm137 : zOK 137 (zxi137, 1, 2, 10, 137, 0, 0, 1, 0) (yX10_cut, cX10_cut, some .int, RX10) := zOK_of2 (len := 28) zh137 zr137 (fun pc h => zguard h)
def zps138 : List (Nat × Nat) := [(1, 2188), (5, 2185), (8, 4073), (16, 2188), (19, 1234), (22, 3149), (30, 3000)]
set_option maxRecDepth 100000 in
theorem zr138 : zrowsB (yX10_print, cX10_print, some .int, RX10) zps138 zxi138 34 = true := by decide +kernel
set_option maxRecDepth 100000 in
theorem zhc138 : zheadC 138 (zxi138, 1, 1, 10, 138, 0, 0, 1, 0) (yX10_print, cX10_print, some .int, RX10) 0 1001 4070 4071 = true := by decide +kernel
set_option maxRecDepth 100000 in
theorem zh138 : zheadB 138 (zxi138, 1, 1, 10, 138, 0, 0, 1, 0) (yX10_print, cX10_print, some .int, RX10) 0 4072 1001 4070 4071 = true := zheadB_of rfl zhc138
theorem zm138 : zOK 138 (zxi138, 1, 1, 10, 138, 0, 0, 1, 0) (yX10_print, cX10_print, some .int, RX10) := zOK_of2 (len := 34) zh138 zr138 (fun pc h => zguard h)
def zps139 : List (Nat × Nat) := [(6, 3000), (12, 2188), (15, 1234), (23, 2188), (26, 1232), (31, 3149), (39, 3000)]
set_option maxRecDepth 100000 in
theorem zr139 : zrowsB (yX10_out, cX10_out, some .int, RX10) zps139 zxi139 43 = true := by decide +kernel
set_option maxRecDepth 100000 in
theorem zhc139 : zheadC 139 (zxi139, 2, 2, 10, 139, 0, 0, 1, 0) (yX10_out, cX10_out, some .int, RX10) 0 1001 4137 4138 = true := by decide +kernel
set_option maxRecDepth 100000 in
theorem zh139 : zheadB 139 (zxi139, 2, 2, 10, 139, 0, 0, 1, 0) (yX10_out, cX10_out, some .int, RX10) 0 4139 1001 4137 4138 = true := zheadB_of rfl zhc139
theorem zm139 : zOK 139 (zxi139, 2, 2, 10, 139, 0, 0, 1, 0) (yX10_out, cX10_out, some .int, RX10) := zOK_of2 (len := 43) zh139 zr139 (fun pc h => zguard h)
def zps140 : List (Nat × Nat) := [(5, 4144), (12, 3000), (18, 3212), (26, 3000), (31, 2185), (35, 2191), (38, 4022), (43, 2185), (46, 1127), (51, 2191), (55, 4031), (59, 4145), (62, 3149)]
set_option maxRecDepth 100000 in
theorem zr140 : zrowsB (yX10_map, cX10_map, some .int, RX10) zps140 zxi140 66 = true := by decide +kernel
set_option maxRecDepth 100000 in
theorem zhc140 : zheadC 140 (zxi140, 3, 3, 10, 140, 0, 0, 1, 0) (yX10_map, cX10_map, some .int, RX10) 0 1001 4141 4142 = true := by decide +kernel
set_option maxRecDepth 100000 in
theorem zh140 : zheadB 140 (zxi140, 3, 3, 10, 140, 0, 0, 1, 0) (yX10_map, cX10_map, some .int, RX10) 0 4143 1001 4141 4142 = true := zheadB_of rfl zhc140
theorem zm140 : zOK 140 (zxi140, 3, 3, 10, 140, 0, 0, 1, 0) (yX10_map, cX10_map, some .int, RX10) := zOK_of2 (len := 66) zh140 zr140 (fun pc h => zguard h)
def zps141 : List (Nat × Nat) := [(5, 4144), (23, 3000), (29, 3212), (37, 3000), (43, 4153), (47, 2192), (50, 2069), (56, 2185), (59, 3166), (94, 2185), (97, 1127), (103, 2191), (110, 4031), (114, 4145), (128, 3149)]
set_option maxRecDepth 100000 in
theorem zr141 : zrowsB (yX10_ride, cX10_ride, some .int, RX10) zps141 zxi141 132 = true := by decide +kernel
set_option maxRecDepth 100000 in
theorem zhc141 : zheadC 141 (zxi141, 4, 8, 10, 141, 0, 0, 1, 0) (yX10_ride, cX10_ride, some .int, RX10) 0 1001 4150 4151 = true := by decide +kernel
set_option maxRecDepth 100000 in
theorem zh141 : zheadB 141 (zxi141, 4, 8, 10, 141, 0, 0, 1, 0) (yX10_ride, cX10_ride, some .int, RX10) 0 4152 1001 4150 4151 = true := zheadB_of rfl zhc141
theorem zm141 : zOK 141 (zxi141, 4, 8, 10, 141, 0, 0, 1, 0) (yX10_ride, cX10_ride, some .int, RX10) := zOK_of2 (len := 132) zh141 zr141 (fun pc h => zguard h)
def zps142 : List (Nat × Nat) := [(2, 3212), (10, 3000), (16, 4153), (21, 2192), (24, 2065), (29, 3149)]
set_option maxRecDepth 100000 in
theorem zr142 : zrowsB (yX10_round, cX10_round, some .int, RX10) zps142 zxi142 33 = true := by decide +kernel
set_option maxRecDepth 100000 in
theorem zhc142 : zheadC 142 (zxi142, 2, 2, 10, 142, 0, 0, 1, 0) (yX10_round, cX10_round, some .int, RX10) 0 1001 4168 4169 = true := by decide +kernel
set_option maxRecDepth 100000 in
theorem zh142 : zheadB 142 (zxi142, 2, 2, 10, 142, 0, 0, 1, 0) (yX10_round, cX10_round, some .int, RX10) 0 4170 1001 4168 4169 = true := zheadB_of rfl zhc142
theorem zm142 : zOK 142 (zxi142, 2, 2, 10, 142, 0, 0, 1, 0) (yX10_round, cX10_round, some .int, RX10) := zOK_of2 (len := 33) zh142 zr142 (fun pc h => zguard h)
def zps143 : List (Nat × Nat) := [(11, 3000), (17, 3212), (25, 3000), (31, 4153), (62, 2192), (65, 2069), (70, 3149), (76, 2192), (79, 2067), (84, 3149), (91, 2192), (94, 2067), (99, 4175), (102, 3149)]
set_option maxRecDepth 100000 in
theorem zr143 : zrowsB (yX10_track, cX10_track, some .int, RX10) zps143 zxi143 106 = true := by decide +kernel
set_option maxRecDepth 100000 in
theorem zhc143 : zheadC 143 (zxi143, 3, 3, 10, 143, 0, 0, 1, 0) (yX10_track, cX10_track, some .int, RX10) 0 1001 4172 4173 = true := by decide +kernel
set_option maxRecDepth 100000 in
theorem zh143 : zheadB 143 (zxi143, 3, 3, 10, 143, 0, 0, 1, 0) (yX10_track, cX10_track, some .int, RX10) 0 4174 1001 4172 4173 = true := zheadB_of rfl zhc143
theorem zm143 : zOK 143 (zxi143, 3, 3, 10, 143, 0, 0, 1, 0) (yX10_track, cX10_track, some .int, RX10) := zOK_of2 (len := 106) zh143 zr143 (fun pc h => zguard h)
def zps144 : List (Nat × Nat) := [(11, 3000), (17, 4153), (50, 2192), (54, 4183), (57, 3149), (63, 2192), (66, 4187), (69, 3149), (75, 2192), (78, 4192), (82, 3149)]
set_option maxRecDepth 100000 in
theorem zr144 : zrowsB (yX10_tracks, cX10_tracks, some .int, RX10) zps144 zxi144 86 = true := by decide +kernel
set_option maxRecDepth 100000 in
theorem zhc144 : zheadC 144 (zxi144, 2, 2, 10, 144, 0, 0, 1, 0) (yX10_tracks, cX10_tracks, some .int, RX10) 0 1001 4180 4181 = true := by decide +kernel
set_option maxRecDepth 100000 in
theorem zh144 : zheadB 144 (zxi144, 2, 2, 10, 144, 0, 0, 1, 0) (yX10_tracks, cX10_tracks, some .int, RX10) 0 4182 1001 4180 4181 = true := zheadB_of rfl zhc144
theorem zm144 : zOK 144 (zxi144, 2, 2, 10, 144, 0, 0, 1, 0) (yX10_tracks, cX10_tracks, some .int, RX10) := zOK_of2 (len := 86) zh144 zr144 (fun pc h => zguard h)
def zps145 : List (Nat × Nat) := [(7, 3000), (13, 4153), (18, 2192), (22, 4183), (25, 3149)]
set_option maxRecDepth 100000 in
theorem zr145 : zrowsB (yX10_ofLength, cX10_ofLength, some .int, RX10) zps145 zxi145 29 = true := by decide +kernel
set_option maxRecDepth 100000 in
theorem zhc145 : zheadC 145 (zxi145, 2, 2, 10, 145, 0, 0, 1, 0) (yX10_ofLength, cX10_ofLength, some .int, RX10) 0 1001 4198 4199 = true := by decide +kernel
set_option maxRecDepth 100000 in
theorem zh145 : zheadB 145 (zxi145, 2, 2, 10, 145, 0, 0, 1, 0) (yX10_ofLength, cX10_ofLength, some .int, RX10) 0 4200 1001 4198 4199 = true := zheadB_of rfl zhc145
theorem zm145 : zOK 145 (zxi145, 2, 2, 10, 145, 0, 0, 1, 0) (yX10_ofLength, cX10_ofLength, some .int, RX10) := zOK_of2 (len := 29) zh145 zr145 (fun pc h => zguard h)
def zps146 : List (Nat × Nat) := [(11, 3000), (17, 3212), (25, 3212), (33, 3000), (43, 2185), (46, 1127), (49, 1061), (60, 3000), (66, 4153), (70, 2192), (74, 2185), (77, 1127), (81, 2191), (86, 2185), (89, 3166), (92, 4205), (96, 2192), (101, 4217), (109, 3000), (114, 2190), (118, 2015), (122, 2190), (125, 2022), (132, 2190), (135, 2022), (142, 2190), (146, 2019), (150, 2190), (154, 2185), (157, 1127), (161, 2191), (164, 4218), (173, 2190), (176, 2019), (183, 2190), (186, 4225), (189, 3149)]
set_option maxRecDepth 100000 in
theorem zr146 : zrowsB (yX10_meets, cX10_meets, some .int, RX10) zps146 zxi146 193 = true := by decide +kernel
set_option maxRecDepth 100000 in
theorem zhc146 : zheadC 146 (zxi146, 4, 4, 10, 146, 0, 0, 1, 0) (yX10_meets, cX10_meets, some .int, RX10) 0 1001 4202 4203 = true := by decide +kernel
set_option maxRecDepth 100000 in
theorem zh146 : zheadB 146 (zxi146, 4, 4, 10, 146, 0, 0, 1, 0) (yX10_meets, cX10_meets, some .int, RX10) 0 4204 1001 4202 4203 = true := zheadB_of rfl zhc146
theorem zm146 : zOK 146 (zxi146, 4, 4, 10, 146, 0, 0, 1, 0) (yX10_meets, cX10_meets, some .int, RX10) := zOK_of2 (len := 193) zh146 zr146 (fun pc h => zguard h)
def zps147 : List (Nat × Nat) := [(11, 3000), (17, 2189), (20, 2019), (23, 4153), (27, 2192), (31, 2185), (34, 1127), (38, 2191), (42, 2189), (45, 2019), (49, 2185), (52, 3166), (55, 4205), (59, 4233), (67, 3000), (72, 2190), (76, 2189), (79, 4237), (83, 2190), (87, 2185), (90, 1127), (94, 2191), (97, 4218), (101, 2190), (104, 4225), (138, 2190), (141, 2019), (145, 2189), (148, 2019), (152, 3149), (158, 3149), (164, 2190), (168, 2185), (171, 1127), (176, 5001), (179, 3149), (184, 2190), (188, 2185), (191, 1127), (196, 5001), (202, 2190), (206, 2185), (209, 1127), (216, 5001), (219, 3149)]
set_option maxRecDepth 100000 in
theorem zr147 : zrowsB (yX10_crash, cX10_crash, some .int, RX10) zps147 zxi147 223 = true := by decide +kernel
set_option maxRecDepth 100000 in
theorem zhc147 : zheadC 147 (zxi147, 2, 4, 10, 147, 0, 0, 1, 0) (yX10_crash, cX10_crash, some .int, RX10) 0 1001 4230 4231 = true := by decide +kernel
set_option maxRecDepth 100000 in
theorem zh147 : zheadB 147 (zxi147, 2, 4, 10, 147, 0, 0, 1, 0) (yX10_crash, cX10_crash, some .int, RX10) 0 4232 1001 4230 4231 = true := zheadB_of rfl zhc147
theorem zm147 : zOK 147 (zxi147, 2, 4, 10, 147, 0, 0, 1, 0) (yX10_crash, cX10_crash, some .int, RX10) := zOK_of2 (len := 223) zh147 zr147 (fun pc h => zguard h)
def zps148 : List (Nat × Nat) := [(1, 2185), (4, 1148), (12, 3000), (18, 2189), (21, 2019), (24, 4153), (33, 2185), (36, 1148), (44, 2192), (47, 2069), (51, 2189), (54, 2022), (61, 5009), (74, 2185), (77, 3166), (83, 3149)]
set_option maxRecDepth 100000 in
theorem zr148 : zrowsB (yX10_repeat, cX10_repeat, some .int, RX10) zps148 zxi148 87 = true := by decide +kernel
set_option maxRecDepth 100000 in
theorem zhc148 : zheadC 148 (zxi148, 1, 4, 10, 148, 0, 0, 1, 0) (yX10_repeat, cX10_repeat, some .int, RX10) 0 1001 5006 5007 = true := by decide +kernel
set_option maxRecDepth 100000 in
theorem zh148 : zheadB 148 (zxi148, 1, 4, 10, 148, 0, 0, 1, 0) (yX10_repeat, cX10_repeat, some .int, RX10) 0 5008 1001 5006 5007 = true := zheadB_of rfl zhc148
theorem zm148 : zOK 148 (zxi148, 1, 4, 10, 148, 0, 0, 1, 0) (yX10_repeat, cX10_repeat, some .int, RX10) := zOK_of2 (len := 87) zh148 zr148 (fun pc h => zguard h)
def zps149 : List (Nat × Nat) := [(6, 3000), (12, 4153), (16, 2192), (20, 2185), (23, 1127), (27, 2191), (32, 2185), (35, 3166), (38, 4205), (43, 5014), (54, 3000), (62, 3149)]
set_option maxRecDepth 100000 in
theorem zr149 : zrowsB (yX10_laid, cX10_laid, some .int, RX10) zps149 zxi149 66 = true := by decide +kernel
set_option maxRecDepth 100000 in
theorem zhc149 : zheadC 149 (zxi149, 2, 3, 10, 149, 0, 0, 1, 0) (yX10_laid, cX10_laid, some .int, RX10) 0 1001 5011 5012 = true := by decide +kernel
set_option maxRecDepth 100000 in
theorem zh149 : zheadB 149 (zxi149, 2, 3, 10, 149, 0, 0, 1, 0) (yX10_laid, cX10_laid, some .int, RX10) 0 5013 1001 5011 5012 = true := zheadB_of rfl zhc149
theorem zm149 : zOK 149 (zxi149, 2, 3, 10, 149, 0, 0, 1, 0) (yX10_laid, cX10_laid, some .int, RX10) := zOK_of2 (len := 66) zh149 zr149 (fun pc h => zguard h)
def zps150 : List (Nat × Nat) := [(2, 2189), (5, 2030), (9, 5026)]
set_option maxRecDepth 100000 in
theorem zr150 : zrowsB (yX10_letter, cX10_letter, some .int, RX10) zps150 zxi150 13 = true := by decide +kernel
set_option maxRecDepth 100000 in
theorem zhc150 : zheadC 150 (zxi150, 2, 2, 10, 150, 0, 0, 1, 0) (yX10_letter, cX10_letter, some .int, RX10) 0 1001 5023 5024 = true := by decide +kernel
set_option maxRecDepth 100000 in
theorem zh150 : zheadB 150 (zxi150, 2, 2, 10, 150, 0, 0, 1, 0) (yX10_letter, cX10_letter, some .int, RX10) 0 5025 1001 5023 5024 = true := zheadB_of rfl zhc150
theorem zm150 : zOK 150 (zxi150, 2, 2, 10, 150, 0, 0, 1, 0) (yX10_letter, cX10_letter, some .int, RX10) := zOK_of2 (len := 13) zh150 zr150 (fun pc h => zguard h)
def zps151 : List (Nat × Nat) := [(2, 2185), (5, 1164), (9, 5026)]
set_option maxRecDepth 100000 in
theorem zr151 : zrowsB (yX10_wished, cX10_wished, some .int, RX10) zps151 zxi151 13 = true := by decide +kernel
set_option maxRecDepth 100000 in
theorem zhc151 : zheadC 151 (zxi151, 2, 2, 10, 151, 0, 0, 1, 0) (yX10_wished, cX10_wished, some .int, RX10) 0 1001 5032 5033 = true := by decide +kernel
set_option maxRecDepth 100000 in
theorem zh151 : zheadB 151 (zxi151, 2, 2, 10, 151, 0, 0, 1, 0) (yX10_wished, cX10_wished, some .int, RX10) 0 5034 1001 5032 5033 = true := zheadB_of rfl zhc151
theorem zm151 : zOK 151 (zxi151, 2, 2, 10, 151, 0, 0, 1, 0) (yX10_wished, cX10_wished, some .int, RX10) := zOK_of2 (len := 13) zh151 zr151 (fun pc h => zguard h)
def zps152 : List (Nat × Nat) := [(12, 3000), (28, 2185), (31, 1160), (39, 3000), (86, 2189), (89, 2030), (92, 5039), (95, 3149), (101, 2189), (104, 2030), (108, 2185), (111, 1148), (114, 5044), (117, 3149), (123, 5056), (134, 3149), (141, 5115), (152, 3149), (158, 5123), (169, 3149), (175, 5127), (186, 3149), (192, 5135), (203, 3149)]
set_option maxRecDepth 100000 in
theorem zr152 : zrowsB (yX10_braid, cX10_braid, some .int, RX10) zps152 zxi152 207 = true := by decide +kernel
set_option maxRecDepth 100000 in
theorem zhc152 : zheadC 152 (zxi152, 2, 2, 10, 152, 0, 0, 1, 0) (yX10_braid, cX10_braid, some .int, RX10) 0 1001 5036 5037 = true := by decide +kernel
set_option maxRecDepth 100000 in
theorem zh152 : zheadB 152 (zxi152, 2, 2, 10, 152, 0, 0, 1, 0) (yX10_braid, cX10_braid, some .int, RX10) 0 5038 1001 5036 5037 = true := zheadB_of rfl zhc152
theorem zm152 : zOK 152 (zxi152, 2, 2, 10, 152, 0, 0, 1, 0) (yX10_braid, cX10_braid, some .int, RX10) := zOK_of2 (len := 207) zh152 zr152 (fun pc h => zguard h)
def zps153 : List (Nat × Nat) := [(2, 5143), (10, 3000), (16, 2189), (19, 2030), (23, 5147), (26, 3149)]
set_option maxRecDepth 100000 in
theorem zr153 : zrowsB (yX10_ends, cX10_ends, some .int, RX10) zps153 zxi153 30 = true := by decide +kernel
set_option maxRecDepth 100000 in
theorem zhc153 : zheadC 153 (zxi153, 2, 2, 10, 153, 0, 0, 1, 0) (yX10_ends, cX10_ends, some .int, RX10) 0 1001 5140 5141 = true := by decide +kernel
set_option maxRecDepth 100000 in
theorem zh153 : zheadB 153 (zxi153, 2, 2, 10, 153, 0, 0, 1, 0) (yX10_ends, cX10_ends, some .int, RX10) 0 5142 1001 5140 5141 = true := zheadB_of rfl zhc153
theorem zm153 : zOK 153 (zxi153, 2, 2, 10, 153, 0, 0, 1, 0) (yX10_ends, cX10_ends, some .int, RX10) := zOK_of2 (len := 30) zh153 zr153 (fun pc h => zguard h)
def zps154 : List (Nat × Nat) := [(2, 5143), (10, 5143), (18, 3000), (29, 3000), (35, 2189), (38, 2030), (43, 5152), (46, 3149)]
set_option maxRecDepth 100000 in
theorem zr154 : zrowsB (yX10_pair, cX10_pair, some .int, RX10) zps154 zxi154 50 = true := by decide +kernel
set_option maxRecDepth 100000 in
theorem zhc154 : zheadC 154 (zxi154, 3, 3, 10, 154, 0, 0, 1, 0) (yX10_pair, cX10_pair, some .int, RX10) 0 1001 5149 5150 = true := by decide +kernel
set_option maxRecDepth 100000 in
theorem zh154 : zheadB 154 (zxi154, 3, 3, 10, 154, 0, 0, 1, 0) (yX10_pair, cX10_pair, some .int, RX10) 0 5151 1001 5149 5150 = true := zheadB_of rfl zhc154
theorem zm154 : zOK 154 (zxi154, 3, 3, 10, 154, 0, 0, 1, 0) (yX10_pair, cX10_pair, some .int, RX10) := zOK_of2 (len := 50) zh154 zr154 (fun pc h => zguard h)
def zps155 : List (Nat × Nat) := [(2, 5143), (19, 3000), (54, 2189), (57, 2030), (62, 5160), (65, 3149), (71, 2189), (74, 2030), (79, 5160), (82, 3149), (88, 2189), (91, 2030), (95, 5164), (98, 3149), (104, 2189), (107, 2030), (111, 5168), (114, 3149)]
set_option maxRecDepth 100000 in
theorem zr155 : zrowsB (yX10_thread, cX10_thread, some .int, RX10) zps155 zxi155 118 = true := by decide +kernel
set_option maxRecDepth 100000 in
theorem zhc155 : zheadC 155 (zxi155, 3, 3, 10, 155, 0, 0, 1, 0) (yX10_thread, cX10_thread, some .int, RX10) 0 1001 5157 5158 = true := by decide +kernel
set_option maxRecDepth 100000 in
theorem zh155 : zheadB 155 (zxi155, 3, 3, 10, 155, 0, 0, 1, 0) (yX10_thread, cX10_thread, some .int, RX10) 0 5159 1001 5157 5158 = true := zheadB_of rfl zhc155
theorem zm155 : zOK 155 (zxi155, 3, 3, 10, 155, 0, 0, 1, 0) (yX10_thread, cX10_thread, some .int, RX10) := zOK_of2 (len := 118) zh155 zr155 (fun pc h => zguard h)
def zps156 : List (Nat × Nat) := [(12, 3000), (17, 2185), (20, 1160), (28, 3000), (35, 5115), (46, 3149)]
set_option maxRecDepth 100000 in
theorem zr156 : zrowsB (yX10_times, cX10_times, some .int, RX10) zps156 zxi156 50 = true := by decide +kernel
set_option maxRecDepth 100000 in
theorem zhc156 : zheadC 156 (zxi156, 2, 2, 10, 156, 0, 0, 1, 0) (yX10_times, cX10_times, some .int, RX10) 0 1001 5173 5174 = true := by decide +kernel
set_option maxRecDepth 100000 in
theorem zh156 : zheadB 156 (zxi156, 2, 2, 10, 156, 0, 0, 1, 0) (yX10_times, cX10_times, some .int, RX10) 0 5175 1001 5173 5174 = true := zheadB_of rfl zhc156
theorem zm156 : zOK 156 (zxi156, 2, 2, 10, 156, 0, 0, 1, 0) (yX10_times, cX10_times, some .int, RX10) := zOK_of2 (len := 50) zh156 zr156 (fun pc h => zguard h)
def zps157 : List (Nat × Nat) := [(13, 3000), (18, 5180), (23, 2185), (26, 3161), (41, 5184), (49, 3149), (61, 3000)]
set_option maxRecDepth 100000 in
theorem zr157 : zrowsB (yX10_search, cX10_search, some .int, RX10) zps157 zxi157 65 = true := by decide +kernel
set_option maxRecDepth 100000 in
theorem zhc157 : zheadC 157 (zxi157, 2, 4, 10, 157, 0, 0, 1, 0) (yX10_search, cX10_search, some .int, RX10) 0 1001 5177 5178 = true := by decide +kernel
set_option maxRecDepth 100000 in
theorem zh157 : zheadB 157 (zxi157, 2, 4, 10, 157, 0, 0, 1, 0) (yX10_search, cX10_search, some .int, RX10) 0 5179 1001 5177 5178 = true := zheadB_of rfl zhc157
theorem zm157 : zOK 157 (zxi157, 2, 4, 10, 157, 0, 0, 1, 0) (yX10_search, cX10_search, some .int, RX10) := zOK_of2 (len := 65) zh157 zr157 (fun pc h => zguard h)
def zps158 : List (Nat × Nat) := [(18, 2185), (21, 3161), (30, 3000), (45, 3000), (50, 5180), (56, 5184), (95, 3149), (107, 2190), (110, 2019), (113, 3149), (121, 3000), (133, 2190), (136, 4225), (139, 3149), (147, 3000), (159, 5206), (162, 3149), (170, 3000), (181, 2190), (184, 2030), (187, 1115), (210, 2190), (213, 2030), (216, 1115), (219, 3149), (227, 3000)]
set_option maxRecDepth 100000 in
theorem zr158 : zrowsB (yX10_refusal, cX10_refusal, some .int, RX10) zps158 zxi158 231 = true := by decide +kernel
set_option maxRecDepth 100000 in
theorem zhc158 : zheadC 158 (zxi158, 4, 6, 10, 158, 0, 0, 1, 0) (yX10_refusal, cX10_refusal, some .int, RX10) 0 1001 5215 5216 = true := by decide +kernel
set_option maxRecDepth 100000 in
theorem zh158 : zheadB 158 (zxi158, 4, 6, 10, 158, 0, 0, 1, 0) (yX10_refusal, cX10_refusal, some .int, RX10) 0 5217 1001 5215 5216 = true := zheadB_of rfl zhc158
theorem zm158 : zOK 158 (zxi158, 4, 6, 10, 158, 0, 0, 1, 0) (yX10_refusal, cX10_refusal, some .int, RX10) := zOK_of2 (len := 231) zh158 zr158 (fun pc h => zguard h)
def zps159 : List (Nat × Nat) := [(22, 3000), (27, 5180), (32, 2185), (35, 3161), (56, 5184), (75, 3149)]
set_option maxRecDepth 100000 in
theorem zr159 : zrowsB (yX10_refused, cX10_refused, some .int, RX10) zps159 zxi159 79 = true := by decide +kernel
set_option maxRecDepth 100000 in
theorem zhc159 : zheadC 159 (zxi159, 3, 6, 10, 159, 0, 0, 1, 0) (yX10_refused, cX10_refused, some .int, RX10) 0 1001 5219 5220 = true := by decide +kernel
set_option maxRecDepth 100000 in
theorem zh159 : zheadB 159 (zxi159, 3, 6, 10, 159, 0, 0, 1, 0) (yX10_refused, cX10_refused, some .int, RX10) 0 5221 1001 5219 5220 = true := zheadB_of rfl zhc159
theorem zm159 : zOK 159 (zxi159, 3, 6, 10, 159, 0, 0, 1, 0) (yX10_refused, cX10_refused, some .int, RX10) := zOK_of2 (len := 79) zh159 zr159 (fun pc h => zguard h)
def zps160 : List (Nat × Nat) := [(12, 3000), (18, 3200), (26, 3212), (34, 3000), (39, 2195), (42, 2112), (52, 3000), (57, 2195), (63, 5226), (68, 2195), (71, 2112), (74, 3149)]
set_option maxRecDepth 100000 in
theorem zr160 : zrowsB (yX10_seen, cX10_seen, some .int, RX10) zps160 zxi160 78 = true := by decide +kernel
set_option maxRecDepth 100000 in
theorem zhc160 : zheadC 160 (zxi160, 4, 4, 10, 160, 0, 0, 1, 0) (yX10_seen, cX10_seen, some .int, RX10) 0 1001 5223 5224 = true := by decide +kernel
set_option maxRecDepth 100000 in
theorem zh160 : zheadB 160 (zxi160, 4, 4, 10, 160, 0, 0, 1, 0) (yX10_seen, cX10_seen, some .int, RX10) 0 5225 1001 5223 5224 = true := zheadB_of rfl zhc160
theorem zm160 : zOK 160 (zxi160, 4, 4, 10, 160, 0, 0, 1, 0) (yX10_seen, cX10_seen, some .int, RX10) := zOK_of2 (len := 78) zh160 zr160 (fun pc h => zguard h)
def zps161 : List (Nat × Nat) := [(1, 2195), (4, 2112), (9, 2195), (13, 2112), (18, 3149)]
set_option maxRecDepth 100000 in
theorem zr161 : zrowsB (yX10_forget, cX10_forget, some .int, RX10) zps161 zxi161 22 = true := by decide +kernel
set_option maxRecDepth 100000 in
theorem zhc161 : zheadC 161 (zxi161, 1, 2, 10, 161, 0, 0, 1, 0) (yX10_forget, cX10_forget, some .int, RX10) 0 1001 5231 5232 = true := by decide +kernel
set_option maxRecDepth 100000 in
theorem zh161 : zheadB 161 (zxi161, 1, 2, 10, 161, 0, 0, 1, 0) (yX10_forget, cX10_forget, some .int, RX10) 0 5233 1001 5231 5232 = true := zheadB_of rfl zhc161
theorem zm161 : zOK 161 (zxi161, 1, 2, 10, 161, 0, 0, 1, 0) (yX10_forget, cX10_forget, some .int, RX10) := zOK_of2 (len := 22) zh161 zr161 (fun pc h => zguard h)
def zps162 : List (Nat × Nat) := [(11, 3000), (16, 2196), (20, 2185), (24, 2195), (28, 2190), (31, 5238), (35, 2196), (38, 2134), (46, 3000), (56, 2196), (59, 2132), (66, 2196), (69, 2134), (72, 3149)]
set_option maxRecDepth 100000 in
theorem zr162 : zrowsB (yX10_name, cX10_name, some .int, RX10) zps162 zxi162 76 = true := by decide +kernel
set_option maxRecDepth 100000 in
theorem zhc162 : zheadC 162 (zxi162, 2, 2, 10, 162, 0, 0, 1, 0) (yX10_name, cX10_name, some .int, RX10) 0 1001 5235 5236 = true := by decide +kernel
set_option maxRecDepth 100000 in
theorem zh162 : zheadB 162 (zxi162, 2, 2, 10, 162, 0, 0, 1, 0) (yX10_name, cX10_name, some .int, RX10) 0 5237 1001 5235 5236 = true := zheadB_of rfl zhc162
theorem zm162 : zOK 162 (zxi162, 2, 2, 10, 162, 0, 0, 1, 0) (yX10_name, cX10_name, some .int, RX10) := zOK_of2 (len := 76) zh162 zr162 (fun pc h => zguard h)
def zps163 : List (Nat × Nat) := [(10, 3000), (15, 2196), (19, 2185), (23, 2195), (27, 2190), (30, 5238), (35, 2196), (38, 2134), (46, 2196), (49, 2132), (57, 3000), (63, 2196), (68, 6041), (71, 3149)]
set_option maxRecDepth 100000 in
theorem zr163 : zrowsB (yX10_named, cX10_named, some .int, RX10) zps163 zxi163 75 = true := by decide +kernel
set_option maxRecDepth 100000 in
theorem zhc163 : zheadC 163 (zxi163, 3, 3, 10, 163, 0, 0, 1, 0) (yX10_named, cX10_named, some .int, RX10) 0 1001 6038 6039 = true := by decide +kernel
set_option maxRecDepth 100000 in
theorem zh163 : zheadB 163 (zxi163, 3, 3, 10, 163, 0, 0, 1, 0) (yX10_named, cX10_named, some .int, RX10) 0 6040 1001 6038 6039 = true := zheadB_of rfl zhc163
theorem zm163 : zOK 163 (zxi163, 3, 3, 10, 163, 0, 0, 1, 0) (yX10_named, cX10_named, some .int, RX10) := zOK_of2 (len := 75) zh163 zr163 (fun pc h => zguard h)
def zps164 : List (Nat × Nat) := [(2, 2184)]
set_option maxRecDepth 100000 in
theorem zr164 : zrowsB (yX10_give, cX10_give, some .int, RX10) zps164 zxi164 7 = true := by decide +kernel
set_option maxRecDepth 100000 in
theorem zhc164 : zheadC 164 (zxi164, 2, 2, 10, 164, 0, 0, 1, 0) (yX10_give, cX10_give, some .int, RX10) 0 1001 3151 31 = true := by decide +kernel
set_option maxRecDepth 100000 in
theorem zh164 : zheadB 164 (zxi164, 2, 2, 10, 164, 0, 0, 1, 0) (yX10_give, cX10_give, some .int, RX10) 0 3152 1001 3151 31 = true := zheadB_of rfl zhc164
theorem zm164 : zOK 164 (zxi164, 2, 2, 10, 164, 0, 0, 1, 0) (yX10_give, cX10_give, some .int, RX10) := zOK_of2 (len := 7) zh164 zr164 (fun pc h => zguard h)
def zps165 : List (Nat × Nat) := [(2, 2184)]
set_option maxRecDepth 100000 in
theorem zr165 : zrowsB (yX10_refuse, cX10_refuse, some .int, RX10) zps165 zxi165 7 = true := by decide +kernel
set_option maxRecDepth 100000 in
theorem zhc165 : zheadC 165 (zxi165, 2, 2, 10, 165, 0, 0, 1, 0) (yX10_refuse, cX10_refuse, some .int, RX10) 0 1001 3002 9 = true := by decide +kernel
set_option maxRecDepth 100000 in
theorem zh165 : zheadB 165 (zxi165, 2, 2, 10, 165, 0, 0, 1, 0) (yX10_refuse, cX10_refuse, some .int, RX10) 0 3003 1001 3002 9 = true := zheadB_of rfl zhc165
theorem zm165 : zOK 165 (zxi165, 2, 2, 10, 165, 0, 0, 1, 0) (yX10_refuse, cX10_refuse, some .int, RX10) := zOK_of2 (len := 7) zh165 zr165 (fun pc h => zguard h)
def zps166 : List (Nat × Nat) := [(6, 2185), (9, 1127), (12, 1052)]
set_option maxRecDepth 100000 in
theorem zr166 : zrowsB (yX10_hasSwitch, cX10_hasSwitch, some .boolean, RX10) zps166 zxi166 24 = true := by decide +kernel
set_option maxRecDepth 100000 in
theorem zhc166 : zheadC 166 (zxi166, 2, 2, 10, 166, 0, 0, 2, 0) (yX10_hasSwitch, cX10_hasSwitch, some .boolean, RX10) 0 1001 3179 34 = true := by decide +kernel
set_option maxRecDepth 100000 in
theorem zh166 : zheadB 166 (zxi166, 2, 2, 10, 166, 0, 0, 2, 0) (yX10_hasSwitch, cX10_hasSwitch, some .boolean, RX10) 0 3180 1001 3179 34 = true := zheadB_of rfl zhc166
theorem zm166 : zOK 166 (zxi166, 2, 2, 10, 166, 0, 0, 2, 0) (yX10_hasSwitch, cX10_hasSwitch, some .boolean, RX10) := zOK_of2 (len := 24) zh166 zr166 (fun pc h => zguard h)
def zps167 : List (Nat × Nat) := [(6, 2185), (9, 1127), (12, 1046)]
set_option maxRecDepth 100000 in
theorem zr167 : zrowsB (yX10_hasSlot, cX10_hasSlot, some .boolean, RX10) zps167 zxi167 24 = true := by decide +kernel
set_option maxRecDepth 100000 in
theorem zhc167 : zheadC 167 (zxi167, 2, 2, 10, 167, 0, 0, 2, 0) (yX10_hasSlot, cX10_hasSlot, some .boolean, RX10) 0 1001 3214 39 = true := by decide +kernel
set_option maxRecDepth 100000 in
theorem zh167 : zheadB 167 (zxi167, 2, 2, 10, 167, 0, 0, 2, 0) (yX10_hasSlot, cX10_hasSlot, some .boolean, RX10) 0 3215 1001 3214 39 = true := zheadB_of rfl zhc167
theorem zm167 : zOK 167 (zxi167, 2, 2, 10, 167, 0, 0, 2, 0) (yX10_hasSlot, cX10_hasSlot, some .boolean, RX10) := zOK_of2 (len := 24) zh167 zr167 (fun pc h => zguard h)
def zps168 : List (Nat × Nat) := [(6, 2185), (9, 1148)]
set_option maxRecDepth 100000 in
theorem zr168 : zrowsB (yX10_hasBobbin, cX10_hasBobbin, some .boolean, RX10) zps168 zxi168 21 = true := by decide +kernel
set_option maxRecDepth 100000 in
theorem zhc168 : zheadC 168 (zxi168, 2, 2, 10, 168, 0, 0, 2, 0) (yX10_hasBobbin, cX10_hasBobbin, some .boolean, RX10) 0 1001 3202 37 = true := by decide +kernel
set_option maxRecDepth 100000 in
theorem zh168 : zheadB 168 (zxi168, 2, 2, 10, 168, 0, 0, 2, 0) (yX10_hasBobbin, cX10_hasBobbin, some .boolean, RX10) 0 3203 1001 3202 37 = true := zheadB_of rfl zhc168
theorem zm168 : zOK 168 (zxi168, 2, 2, 10, 168, 0, 0, 2, 0) (yX10_hasBobbin, cX10_hasBobbin, some .boolean, RX10) := zOK_of2 (len := 21) zh168 zr168 (fun pc h => zguard h)
def zps169 : List (Nat × Nat) := [(7, 2185), (10, 1148)]
set_option maxRecDepth 100000 in
theorem zr169 : zrowsB (yX10_hasPlace, cX10_hasPlace, some .boolean, RX10) zps169 zxi169 22 = true := by decide +kernel
set_option maxRecDepth 100000 in
theorem zhc169 : zheadC 169 (zxi169, 2, 2, 10, 169, 0, 0, 2, 0) (yX10_hasPlace, cX10_hasPlace, some .boolean, RX10) 0 1001 5145 103 = true := by decide +kernel
set_option maxRecDepth 100000 in
theorem zh169 : zheadB 169 (zxi169, 2, 2, 10, 169, 0, 0, 2, 0) (yX10_hasPlace, cX10_hasPlace, some .boolean, RX10) 0 5146 1001 5145 103 = true := zheadB_of rfl zhc169
theorem zm169 : zOK 169 (zxi169, 2, 2, 10, 169, 0, 0, 2, 0) (yX10_hasPlace, cX10_hasPlace, some .boolean, RX10) := zOK_of2 (len := 22) zh169 zr169 (fun pc h => zguard h)
def zps170 : List (Nat × Nat) := [(1, 2189), (5, 2185), (8, 1127), (12, 2191), (16, 2189), (19, 2019), (22, 4031), (26, 4035), (36, 2189), (40, 2185), (43, 1127), (46, 4039), (50, 2189), (53, 2030), (56, 1115), (60, 2189), (63, 2028), (76, 2189), (79, 4052), (83, 2189), (86, 4056)]
set_option maxRecDepth 100000 in
theorem zr170 : zrowsB (yX10_advance, cX10_advance, some .int, RX10) zps170 zxi170 91 = true := by decide +kernel
set_option maxRecDepth 100000 in
theorem zhc170 : zheadC 170 (zxi170, 1, 1, 10, 170, 0, 0, 1, 0) (yX10_advance, cX10_advance, some .int, RX10) 0 1001 4029 44 = true := by decide +kernel
set_option maxRecDepth 100000 in
theorem zh170 : zheadB 170 (zxi170, 1, 1, 10, 170, 0, 0, 1, 0) (yX10_advance, cX10_advance, some .int, RX10) 0 4030 1001 4029 44 = true := zheadB_of rfl zhc170
theorem zm170 : zOK 170 (zxi170, 1, 1, 10, 170, 0, 0, 1, 0) (yX10_advance, cX10_advance, some .int, RX10) := zOK_of2 (len := 91) zh170 zr170 (fun pc h => zguard h)
def zps171 : List (Nat × Nat) := [(1, 2185), (5, 2191), (8, 4022), (12, 2192), (16, 2185), (19, 1127), (23, 2191), (28, 2185), (31, 3166), (34, 4157)]
set_option maxRecDepth 100000 in
theorem zr171 : zrowsB (yX10_layRounds, cX10_layRounds, none, RX10) zps171 zxi171 38 = true := by decide +kernel
set_option maxRecDepth 100000 in
theorem zhc171 : zheadC 171 (zxi171, 2, 2, 10, 171, 0, 0, 0, 0) (yX10_layRounds, cX10_layRounds, none, RX10) 0 1001 4155 63 = true := by decide +kernel
set_option maxRecDepth 100000 in
theorem zh171 : zheadB 171 (zxi171, 2, 2, 10, 171, 0, 0, 0, 0) (yX10_layRounds, cX10_layRounds, none, RX10) 0 4156 1001 4155 63 = true := zheadB_of rfl zhc171
theorem zm171 : zOK 171 (zxi171, 2, 2, 10, 171, 0, 0, 0, 0) (yX10_layRounds, cX10_layRounds, none, RX10) := zOK_of2 (len := 38) zh171 zr171 (fun pc h => zguard h)
def zps172 : List (Nat × Nat) := [(6, 2185), (9, 1148), (16, 2192), (19, 2067), (23, 2185), (26, 1153)]
set_option maxRecDepth 100000 in
theorem zr172 : zrowsB (yX10_startsOnTrack, cX10_startsOnTrack, some .int, RX10) zps172 zxi172 47 = true := by decide +kernel
set_option maxRecDepth 100000 in
theorem zhc172 : zheadC 172 (zxi172, 2, 4, 10, 172, 0, 0, 1, 0) (yX10_startsOnTrack, cX10_startsOnTrack, some .int, RX10) 0 1001 4177 66 = true := by decide +kernel
set_option maxRecDepth 100000 in
theorem zh172 : zheadB 172 (zxi172, 2, 4, 10, 172, 0, 0, 1, 0) (yX10_startsOnTrack, cX10_startsOnTrack, some .int, RX10) 0 4178 1001 4177 66 = true := zheadB_of rfl zhc172
theorem zm172 : zOK 172 (zxi172, 2, 4, 10, 172, 0, 0, 1, 0) (yX10_startsOnTrack, cX10_startsOnTrack, some .int, RX10) := zOK_of2 (len := 47) zh172 zr172 (fun pc h => zguard h)
def zps173 : List (Nat × Nat) := [(4, 2185), (7, 1148), (21, 2192), (25, 2189), (28, 2022), (34, 2189), (37, 2022), (42, 4217)]
set_option maxRecDepth 100000 in
theorem zr173 : zrowsB (yX10_foesAmongBobbins, cX10_foesAmongBobbins, some .boolean, RX10) zps173 zxi173 64 = true := by decide +kernel
set_option maxRecDepth 100000 in
theorem zhc173 : zheadC 173 (zxi173, 1, 3, 10, 173, 0, 0, 2, 0) (yX10_foesAmongBobbins, cX10_foesAmongBobbins, some .boolean, RX10) 0 1001 4235 75 = true := by decide +kernel
set_option maxRecDepth 100000 in
theorem zh173 : zheadB 173 (zxi173, 1, 3, 10, 173, 0, 0, 2, 0) (yX10_foesAmongBobbins, cX10_foesAmongBobbins, some .boolean, RX10) 0 4236 1001 4235 75 = true := zheadB_of rfl zhc173
theorem zm173 : zOK 173 (zxi173, 1, 3, 10, 173, 0, 0, 2, 0) (yX10_foesAmongBobbins, cX10_foesAmongBobbins, some .boolean, RX10) := zOK_of2 (len := 64) zh173 zr173 (fun pc h => zguard h)
def zps174 : List (Nat × Nat) := [(1, 2190), (5, 2015), (12, 2185), (15, 1127), (18, 1046), (25, 2190), (28, 2015), (38, 5018), (45, 2190), (48, 2022), (52, 2190), (55, 2015), (61, 2190), (65, 2015), (70, 2015), (81, 2190), (84, 2015), (91, 2190), (94, 2022)]
set_option maxRecDepth 100000 in
theorem zr174 : zrowsB (yX10_kthLaid, cX10_kthLaid, some .int, RX10) zps174 zxi174 104 = true := by decide +kernel
set_option maxRecDepth 100000 in
theorem zhc174 : zheadC 174 (zxi174, 2, 3, 10, 174, 0, 0, 1, 0) (yX10_kthLaid, cX10_kthLaid, some .int, RX10) 0 1001 5016 78 = true := by decide +kernel
set_option maxRecDepth 100000 in
theorem zh174 : zheadB 174 (zxi174, 2, 3, 10, 174, 0, 0, 1, 0) (yX10_kthLaid, cX10_kthLaid, some .int, RX10) 0 5017 1001 5016 78 = true := zheadB_of rfl zhc174
theorem zm174 : zOK 174 (zxi174, 2, 3, 10, 174, 0, 0, 1, 0) (yX10_kthLaid, cX10_kthLaid, some .int, RX10) := zOK_of2 (len := 104) zh174 zr174 (fun pc h => zguard h)
def zps175 : List (Nat × Nat) := [(4, 2190), (7, 2015), (14, 2190), (17, 2022), (24, 2185), (27, 1127), (30, 1061), (40, 2192), (45, 4217)]
set_option maxRecDepth 100000 in
theorem zr175 : zrowsB (yX10_fitsLaid, cX10_fitsLaid, some .boolean, RX10) zps175 zxi175 61 = true := by decide +kernel
set_option maxRecDepth 100000 in
theorem zhc175 : zheadC 175 (zxi175, 2, 4, 10, 175, 0, 0, 2, 0) (yX10_fitsLaid, cX10_fitsLaid, some .boolean, RX10) 0 1001 5020 79 = true := by decide +kernel
set_option maxRecDepth 100000 in
theorem zh175 : zheadB 175 (zxi175, 2, 4, 10, 175, 0, 0, 2, 0) (yX10_fitsLaid, cX10_fitsLaid, some .boolean, RX10) 0 5021 1001 5020 79 = true := zheadB_of rfl zhc175
theorem zm175 : zOK 175 (zxi175, 2, 4, 10, 175, 0, 0, 2, 0) (yX10_fitsLaid, cX10_fitsLaid, some .boolean, RX10) := zOK_of2 (len := 61) zh175 zr175 (fun pc h => zguard h)
def zps176 : List (Nat × Nat) := [(6, 3000), (12, 5030), (20, 1111), (25, 3149), (33, 3000)]
set_option maxRecDepth 100000 in
theorem zr176 : zrowsB (yX10_letterOf, cX10_letterOf, some .int, RX10) zps176 zxi176 37 = true := by decide +kernel
set_option maxRecDepth 100000 in
theorem zhc176 : zheadC 176 (zxi176, 3, 3, 10, 176, 0, 0, 1, 0) (yX10_letterOf, cX10_letterOf, some .int, RX10) 0 1001 5028 80 = true := by decide +kernel
set_option maxRecDepth 100000 in
theorem zh176 : zheadB 176 (zxi176, 3, 3, 10, 176, 0, 0, 1, 0) (yX10_letterOf, cX10_letterOf, some .int, RX10) 0 5029 1001 5028 80 = true := zheadB_of rfl zhc176
theorem zm176 : zOK 176 (zxi176, 3, 3, 10, 176, 0, 0, 1, 0) (yX10_letterOf, cX10_letterOf, some .int, RX10) := zOK_of2 (len := 37) zh176 zr176 (fun pc h => zguard h)
def zps177 : List (Nat × Nat) := [(1, 2193), (5, 2185), (8, 1148), (11, 5060), (15, 2194), (19, 2185), (22, 1148), (25, 5060), (29, 2193), (33, 2189), (36, 2030), (40, 5064), (44, 2193), (48, 2194), (51, 5111)]
set_option maxRecDepth 100000 in
theorem zr177 : zrowsB (yX10_isEmptyBraid, cX10_isEmptyBraid, some .boolean, RX10) zps177 zxi177 55 = true := by decide +kernel
set_option maxRecDepth 100000 in
theorem zhc177 : zheadC 177 (zxi177, 1, 1, 10, 177, 0, 0, 2, 0) (yX10_isEmptyBraid, cX10_isEmptyBraid, some .boolean, RX10) 0 1001 5058 84 = true := by decide +kernel
set_option maxRecDepth 100000 in
theorem zh177 : zheadB 177 (zxi177, 1, 1, 10, 177, 0, 0, 2, 0) (yX10_isEmptyBraid, cX10_isEmptyBraid, some .boolean, RX10) 0 5059 1001 5058 84 = true := zheadB_of rfl zhc177
theorem zm177 : zOK 177 (zxi177, 1, 1, 10, 177, 0, 0, 2, 0) (yX10_isEmptyBraid, cX10_isEmptyBraid, some .boolean, RX10) := zOK_of2 (len := 55) zh177 zr177 (fun pc h => zguard h)
def zps178 : List (Nat × Nat) := [(1, 2185), (4, 1164), (8, 2185), (11, 1148), (14, 5119), (23, 2194), (27, 2185), (30, 1148), (33, 5060), (37, 2194), (41, 2185), (44, 1164), (48, 5064), (52, 2193), (56, 2185), (59, 1148), (62, 5060), (73, 2193), (77, 2189), (80, 2030), (84, 5064), (94, 2193), (98, 2194), (101, 5111)]
set_option maxRecDepth 100000 in
theorem zr178 : zrowsB (yX10_isWishedBraid, cX10_isWishedBraid, some .boolean, RX10) zps178 zxi178 105 = true := by decide +kernel
set_option maxRecDepth 100000 in
theorem zhc178 : zheadC 178 (zxi178, 2, 3, 10, 178, 0, 0, 2, 0) (yX10_isWishedBraid, cX10_isWishedBraid, some .boolean, RX10) 0 1001 5117 97 = true := by decide +kernel
set_option maxRecDepth 100000 in
theorem zh178 : zheadB 178 (zxi178, 2, 3, 10, 178, 0, 0, 2, 0) (yX10_isWishedBraid, cX10_isWishedBraid, some .boolean, RX10) 0 5118 1001 5117 97 = true := zheadB_of rfl zhc178
theorem zm178 : zOK 178 (zxi178, 2, 3, 10, 178, 0, 0, 2, 0) (yX10_isWishedBraid, cX10_isWishedBraid, some .boolean, RX10) := zOK_of2 (len := 105) zh178 zr178 (fun pc h => zguard h)
def zps179 : List (Nat × Nat) := [(1, 2193), (5, 2185), (8, 1148), (11, 5060), (15, 2194), (19, 2185), (22, 1148), (25, 5060), (29, 2193), (33, 2189), (36, 2030), (40, 5064), (44, 2194), (48, 2189), (51, 2030), (55, 5064), (59, 2193), (63, 2194), (66, 5111)]
set_option maxRecDepth 100000 in
theorem zr179 : zrowsB (yX10_isMirrored, cX10_isMirrored, some .boolean, RX10) zps179 zxi179 70 = true := by decide +kernel
set_option maxRecDepth 100000 in
theorem zhc179 : zheadC 179 (zxi179, 1, 1, 10, 179, 0, 0, 2, 0) (yX10_isMirrored, cX10_isMirrored, some .boolean, RX10) 0 1001 5125 99 = true := by decide +kernel
set_option maxRecDepth 100000 in
theorem zh179 : zheadB 179 (zxi179, 1, 1, 10, 179, 0, 0, 2, 0) (yX10_isMirrored, cX10_isMirrored, some .boolean, RX10) 0 5126 1001 5125 99 = true := zheadB_of rfl zhc179
theorem zm179 : zOK 179 (zxi179, 1, 1, 10, 179, 0, 0, 2, 0) (yX10_isMirrored, cX10_isMirrored, some .boolean, RX10) := zOK_of2 (len := 70) zh179 zr179 (fun pc h => zguard h)
