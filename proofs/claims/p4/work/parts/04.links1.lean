def zps114 : List (Nat × Nat) := [(14, 5043), (21, 1108), (27, 5055), (35, 4129), (46, 1105), (59, 1108), (78, 1108), (84, 5052), (91, 1108), (97, 5052)]
set_option maxRecDepth 100000 in
theorem zr114 : ∀ pc, pc < 111 → zrowB (yX9_changesOf, cX9_changesOf, some .int, RX9) zps114 pc (zxi114 pc) = true := by decide +kernel
set_option maxRecDepth 100000 in
theorem zh114 : zheadB 114 (zxi114, 3, 8, 9, 114, 0, 0, 1, 0) (yX9_changesOf, cX9_changesOf, some .int, RX9) 0 5155 1004 5154 104 = true := by decide +kernel
theorem zm114 : zOK 114 (zxi114, 3, 8, 9, 114, 0, 0, 1, 0) (yX9_changesOf, cX9_changesOf, some .int, RX9) := zOK_of zh114 zr114 (fun pc h => zguard h)
def zps115 : List (Nat × Nat) := [(11, 5043), (19, 1108), (25, 5052), (42, 1108)]
set_option maxRecDepth 100000 in
theorem zr115 : ∀ pc, pc < 96 → zrowB (yX9_partsOf, cX9_partsOf, some .int, RX9) zps115 pc (zxi115 pc) = true := by decide +kernel
set_option maxRecDepth 100000 in
theorem zh115 : zheadB 115 (zxi115, 3, 8, 9, 115, 0, 0, 1, 0) (yX9_partsOf, cX9_partsOf, some .int, RX9) 0 5163 1004 5162 105 = true := by decide +kernel
theorem zm115 : zOK 115 (zxi115, 3, 8, 9, 115, 0, 0, 1, 0) (yX9_partsOf, cX9_partsOf, some .int, RX9) := zOK_of zh115 zr115 (fun pc h => zguard h)
def zps116 : List (Nat × Nat) := [(10, 5043), (18, 1108), (24, 5052), (30, 1105)]
set_option maxRecDepth 100000 in
theorem zr116 : ∀ pc, pc < 42 → zrowB (yX9_greatestPlaceOf, cX9_greatestPlaceOf, some .int, RX9) zps116 pc (zxi116 pc) = true := by decide +kernel
set_option maxRecDepth 100000 in
theorem zh116 : zheadB 116 (zxi116, 2, 5, 9, 116, 0, 0, 1, 0) (yX9_greatestPlaceOf, cX9_greatestPlaceOf, some .int, RX9) 0 5167 1004 5166 106 = true := by decide +kernel
theorem zm116 : zOK 116 (zxi116, 2, 5, 9, 116, 0, 0, 1, 0) (yX9_greatestPlaceOf, cX9_greatestPlaceOf, some .int, RX9) := zOK_of zh116 zr116 (fun pc h => zguard h)
def zps117 : List (Nat × Nat) := [(10, 5043), (18, 1108), (24, 5052), (30, 4129)]
set_option maxRecDepth 100000 in
theorem zr117 : ∀ pc, pc < 42 → zrowB (yX9_leastPlaceOf, cX9_leastPlaceOf, some .int, RX9) zps117 pc (zxi117 pc) = true := by decide +kernel
set_option maxRecDepth 100000 in
theorem zh117 : zheadB 117 (zxi117, 2, 5, 9, 117, 0, 0, 1, 0) (yX9_leastPlaceOf, cX9_leastPlaceOf, some .int, RX9) 0 5171 1004 5170 107 = true := by decide +kernel
theorem zm117 : zOK 117 (zxi117, 2, 5, 9, 117, 0, 0, 1, 0) (yX9_leastPlaceOf, cX9_leastPlaceOf, some .int, RX9) := zOK_of zh117 zr117 (fun pc h => zguard h)
def zps118 : List (Nat × Nat) := [(1, 1023), (5, 1026), (9, 1028), (12, 2185), (16, 1026), (20, 1028), (23, 2186), (27, 1187), (31, 1189), (34, 2187), (38, 1225), (42, 1227), (45, 2188), (49, 2006), (53, 2008), (56, 2189), (60, 2006), (64, 2008), (67, 2190), (75, 2191), (79, 2057), (83, 2059), (86, 2192), (90, 2089), (94, 2091), (97, 2193), (101, 2089), (105, 2091), (108, 2194), (112, 2105), (116, 2107), (119, 2195), (123, 2125), (127, 2127), (130, 2196), (134, 2185), (139, 2152), (143, 2189), (147, 2185), (150, 2172)]
set_option maxRecDepth 100000 in
theorem zr118 : ∀ pc, pc < 154 → zrowB (yX10_init, cX10_init, none, RX10) zps118 pc (zxi118 pc) = true := by decide +kernel
set_option maxRecDepth 100000 in
theorem zh118 : zheadB 118 (zxi118, 1, 1, 10, 118, 73, 9192, 0, 11) (yX10_init, cX10_init, none, RX10) 1 1022 1001 1021 0 = true := by decide +kernel
theorem zm118 : zOK 118 (zxi118, 1, 1, 10, 118, 73, 9192, 0, 11) (yX10_init, cX10_init, none, RX10) := zOK_of zh118 zr118 (fun pc h => zguard h)
def zps119 : List (Nat × Nat) := [(1, 2184)]
set_option maxRecDepth 100000 in
theorem zr119 : ∀ pc, pc < 5 → zrowB (yX10_status, cX10_status, some .int, RX10) zps119 pc (zxi119 pc) = true := by decide +kernel
set_option maxRecDepth 100000 in
theorem zh119 : zheadB 119 (zxi119, 1, 1, 10, 119, 0, 0, 1, 0) (yX10_status, cX10_status, some .int, RX10) 0 2227 1001 2225 2226 = true := by decide +kernel
theorem zm119 : zOK 119 (zxi119, 1, 1, 10, 119, 0, 0, 1, 0) (yX10_status, cX10_status, some .int, RX10) := zOK_of zh119 zr119 (fun pc h => zguard h)
def zps120 : List (Nat × Nat) := [(1, 2187), (4, 1195), (19, 2187), (23, 2232), (27, 2187), (31, 2232), (35, 2187), (39, 2232), (43, 2187), (48, 2232), (52, 2187), (57, 2232), (61, 2187), (64, 1195)]
set_option maxRecDepth 100000 in
theorem zr120 : ∀ pc, pc < 68 → zrowB (yX10_feed, cX10_feed, some .int, RX10) zps120 pc (zxi120 pc) = true := by decide +kernel
set_option maxRecDepth 100000 in
theorem zh120 : zheadB 120 (zxi120, 6, 6, 10, 120, 0, 0, 1, 0) (yX10_feed, cX10_feed, some .int, RX10) 0 2231 1001 2229 2230 = true := by decide +kernel
theorem zm120 : zOK 120 (zxi120, 6, 6, 10, 120, 0, 0, 1, 0) (yX10_feed, cX10_feed, some .int, RX10) := zOK_of zh120 zr120 (fun pc h => zguard h)
def zps121 : List (Nat × Nat) := [(6, 2187), (9, 1195), (17, 3000), (22, 2187), (27, 2186), (30, 3004), (39, 3000), (44, 2186), (50, 2185), (53, 2186), (58, 2185), (62, 2189), (66, 2185), (69, 2172), (73, 2195), (77, 2112), (81, 2188), (85, 1234), (90, 2185), (93, 1127), (96, 1046), (99, 3149)]
set_option maxRecDepth 100000 in
theorem zr121 : ∀ pc, pc < 103 → zrowB (yX10_load, cX10_load, some .int, RX10) zps121 pc (zxi121 pc) = true := by decide +kernel
set_option maxRecDepth 100000 in
theorem zh121 : zheadB 121 (zxi121, 2, 3, 10, 121, 0, 0, 1, 0) (yX10_load, cX10_load, some .int, RX10) 0 2239 1001 2237 2238 = true := by decide +kernel
theorem zm121 : zOK 121 (zxi121, 2, 3, 10, 121, 0, 0, 1, 0) (yX10_load, cX10_load, some .int, RX10) := zOK_of zh121 zr121 (fun pc h => zguard h)
def zps122 : List (Nat × Nat) := [(5, 2187), (8, 1197), (18, 2187), (21, 1199)]
set_option maxRecDepth 100000 in
theorem zr122 : ∀ pc, pc < 29 → zrowB (yX10_fault, cX10_fault, some .int, RX10) zps122 pc (zxi122 pc) = true := by decide +kernel
set_option maxRecDepth 100000 in
theorem zh122 : zheadB 122 (zxi122, 2, 2, 10, 122, 0, 0, 1, 0) (yX10_fault, cX10_fault, some .int, RX10) 0 3156 1001 3154 3155 = true := by decide +kernel
theorem zm122 : zOK 122 (zxi122, 2, 2, 10, 122, 0, 0, 1, 0) (yX10_fault, cX10_fault, some .int, RX10) := zOK_of zh122 zr122 (fun pc h => zguard h)
def zps123 : List (Nat × Nat) := [(66, 2185), (69, 1127), (72, 1040), (75, 3149), (81, 2185), (84, 1127), (87, 1043), (90, 3149), (96, 2185), (99, 1127), (102, 1052), (105, 3149), (111, 2185), (114, 1127), (117, 1046), (120, 3149), (126, 2185), (129, 1148), (132, 3149), (138, 2189), (141, 2019), (144, 3149), (150, 2189), (153, 2030), (156, 1115), (159, 3149), (165, 2185), (168, 3161), (171, 3149), (177, 2185), (180, 3162), (183, 3149), (189, 2185), (192, 3166), (195, 3149), (201, 2195), (204, 2112), (207, 3149), (213, 2185), (216, 1160), (223, 2185), (226, 1164), (229, 1115), (236, 3149), (242, 3000)]
set_option maxRecDepth 100000 in
theorem zr123 : ∀ pc, pc < 246 → zrowB (yX10_many, cX10_many, some .int, RX10) zps123 pc (zxi123 pc) = true := by decide +kernel
set_option maxRecDepth 100000 in
theorem zh123 : zheadB 123 (zxi123, 2, 2, 10, 123, 0, 0, 1, 0) (yX10_many, cX10_many, some .int, RX10) 0 3160 1001 3158 3159 = true := by decide +kernel
theorem zm123 : zOK 123 (zxi123, 2, 2, 10, 123, 0, 0, 1, 0) (yX10_many, cX10_many, some .int, RX10) := zOK_of zh123 zr123 (fun pc h => zguard h)
def zps124 : List (Nat × Nat) := [(11, 3000), (17, 3177), (25, 3000), (66, 2185), (69, 1136), (74, 3149), (80, 2185), (85, 2189), (88, 2019), (91, 3181), (102, 3149), (108, 2185), (111, 1139), (116, 3149), (122, 2185), (125, 1143), (138, 3149), (144, 2185), (147, 1127), (150, 1071), (155, 3149), (161, 2185), (164, 1127), (167, 1074), (172, 3149)]
set_option maxRecDepth 100000 in
theorem zr124 : ∀ pc, pc < 176 → zrowB (yX10_gate, cX10_gate, some .int, RX10) zps124 pc (zxi124 pc) = true := by decide +kernel
set_option maxRecDepth 100000 in
theorem zh124 : zheadB 124 (zxi124, 3, 3, 10, 124, 0, 0, 1, 0) (yX10_gate, cX10_gate, some .int, RX10) 0 3176 1001 3174 3175 = true := by decide +kernel
theorem zm124 : zOK 124 (zxi124, 3, 3, 10, 124, 0, 0, 1, 0) (yX10_gate, cX10_gate, some .int, RX10) := zOK_of zh124 zr124 (fun pc h => zguard h)
def zps125 : List (Nat × Nat) := [(6, 3000), (12, 3177), (20, 3000), (26, 2185), (29, 1136), (39, 3000), (45, 2185), (48, 1132), (57, 3149)]
set_option maxRecDepth 100000 in
theorem zr125 : ∀ pc, pc < 61 → zrowB (yX10_bit, cX10_bit, some .int, RX10) zps125 pc (zxi125 pc) = true := by decide +kernel
set_option maxRecDepth 100000 in
theorem zh125 : zheadB 125 (zxi125, 3, 3, 10, 125, 0, 0, 1, 0) (yX10_bit, cX10_bit, some .int, RX10) 0 3195 1001 3193 3194 = true := by decide +kernel
theorem zm125 : zOK 125 (zxi125, 3, 3, 10, 125, 0, 0, 1, 0) (yX10_bit, cX10_bit, some .int, RX10) := zOK_of zh125 zr125 (fun pc h => zguard h)
def zps126 : List (Nat × Nat) := [(11, 3000), (17, 3200), (25, 3000), (66, 2189), (69, 2022), (74, 3149), (80, 2185), (83, 1127), (86, 1065), (90, 2189), (93, 2022), (99, 3149), (105, 2185), (108, 1127), (111, 1067), (115, 2189), (118, 2022), (124, 3149), (130, 2185), (133, 1153), (138, 3149), (144, 2189), (148, 3204), (151, 3149), (157, 2185), (160, 1156), (165, 3149)]
set_option maxRecDepth 100000 in
theorem zr126 : ∀ pc, pc < 169 → zrowB (yX10_bobbin, cX10_bobbin, some .int, RX10) zps126 pc (zxi126 pc) = true := by decide +kernel
set_option maxRecDepth 100000 in
theorem zh126 : zheadB 126 (zxi126, 3, 3, 10, 126, 0, 0, 1, 0) (yX10_bobbin, cX10_bobbin, some .int, RX10) 0 3199 1001 3197 3198 = true := by decide +kernel
theorem zm126 : zOK 126 (zxi126, 3, 3, 10, 126, 0, 0, 1, 0) (yX10_bobbin, cX10_bobbin, some .int, RX10) := zOK_of zh126 zr126 (fun pc h => zguard h)
def zps127 : List (Nat × Nat) := [(2, 3212), (10, 3000), (15, 2189), (19, 3216), (30, 3000), (38, 3149)]
set_option maxRecDepth 100000 in
theorem zr127 : ∀ pc, pc < 42 → zrowB (yX10_at, cX10_at, some .int, RX10) zps127 pc (zxi127 pc) = true := by decide +kernel
set_option maxRecDepth 100000 in
theorem zh127 : zheadB 127 (zxi127, 2, 3, 10, 127, 0, 0, 1, 0) (yX10_at, cX10_at, some .int, RX10) 0 3211 1001 3209 3210 = true := by decide +kernel
theorem zm127 : zOK 127 (zxi127, 2, 3, 10, 127, 0, 0, 1, 0) (yX10_at, cX10_at, some .int, RX10) := zOK_of zh127 zr127 (fun pc h => zguard h)
def zps128 : List (Nat × Nat) := [(2, 3212), (10, 3000), (15, 2185), (18, 1127), (21, 1061), (34, 3000), (42, 3149)]
set_option maxRecDepth 100000 in
theorem zr128 : ∀ pc, pc < 46 → zrowB (yX10_faces, cX10_faces, some .int, RX10) zps128 pc (zxi128 pc) = true := by decide +kernel
set_option maxRecDepth 100000 in
theorem zh128 : zheadB 128 (zxi128, 2, 3, 10, 128, 0, 0, 1, 0) (yX10_faces, cX10_faces, some .int, RX10) 0 3223 1001 3221 3222 = true := by decide +kernel
theorem zm128 : zOK 128 (zxi128, 2, 3, 10, 128, 0, 0, 1, 0) (yX10_faces, cX10_faces, some .int, RX10) := zOK_of zh128 zr128 (fun pc h => zguard h)
def zps129 : List (Nat × Nat) := [(22, 3000), (28, 3177), (36, 3000), (41, 2185), (44, 1132), (54, 2185), (57, 1136), (68, 3000), (73, 2185), (76, 1132), (83, 2185), (86, 1136), (94, 3149)]
set_option maxRecDepth 100000 in
theorem zr129 : ∀ pc, pc < 98 → zrowB (yX10_program, cX10_program, some .int, RX10) zps129 pc (zxi129 pc) = true := by decide +kernel
set_option maxRecDepth 100000 in
theorem zh129 : zheadB 129 (zxi129, 4, 4, 10, 129, 0, 0, 1, 0) (yX10_program, cX10_program, some .int, RX10) 0 3227 1001 3225 3226 = true := by decide +kernel
theorem zm129 : zOK 129 (zxi129, 4, 4, 10, 129, 0, 0, 1, 0) (yX10_program, cX10_program, some .int, RX10) := zOK_of zh129 zr129 (fun pc h => zguard h)
def zps130 : List (Nat × Nat) := [(11, 3000), (17, 3177), (25, 3000), (30, 2185), (33, 1139), (46, 3000), (51, 2185), (54, 1139), (62, 3149)]
set_option maxRecDepth 100000 in
theorem zr130 : ∀ pc, pc < 66 → zrowB (yX10_stick, cX10_stick, some .int, RX10) zps130 pc (zxi130 pc) = true := by decide +kernel
set_option maxRecDepth 100000 in
theorem zh130 : zheadB 130 (zxi130, 3, 4, 10, 130, 0, 0, 1, 0) (yX10_stick, cX10_stick, some .int, RX10) 0 3231 1001 3229 3230 = true := by decide +kernel
theorem zm130 : zOK 130 (zxi130, 3, 4, 10, 130, 0, 0, 1, 0) (yX10_stick, cX10_stick, some .int, RX10) := zOK_of zh130 zr130 (fun pc h => zguard h)
def zps131 : List (Nat × Nat) := [(2, 3177), (10, 3000), (15, 2185), (18, 1143), (29, 3000), (38, 2185), (41, 3161), (51, 3000), (56, 2185), (59, 1143), (67, 2185), (70, 3161), (73, 3149)]
set_option maxRecDepth 100000 in
theorem zr131 : ∀ pc, pc < 77 → zrowB (yX10_free, cX10_free, some .int, RX10) zps131 pc (zxi131 pc) = true := by decide +kernel
set_option maxRecDepth 100000 in
theorem zh131 : zheadB 131 (zxi131, 3, 3, 10, 131, 0, 0, 1, 0) (yX10_free, cX10_free, some .int, RX10) 0 3235 1001 3233 3234 = true := by decide +kernel
theorem zm131 : zOK 131 (zxi131, 3, 3, 10, 131, 0, 0, 1, 0) (yX10_free, cX10_free, some .int, RX10) := zOK_of zh131 zr131 (fun pc h => zguard h)
def zps132 : List (Nat × Nat) := [(2, 3212), (10, 3000), (15, 2185), (18, 1148), (28, 3000), (33, 2185), (37, 4000), (45, 3000), (50, 2189), (53, 2019), (62, 3000), (67, 2185), (71, 4001), (75, 2189), (79, 2185), (82, 2172), (87, 2185), (90, 1148), (95, 3149)]
set_option maxRecDepth 100000 in
theorem zr132 : ∀ pc, pc < 99 → zrowB (yX10_put, cX10_put, some .int, RX10) zps132 pc (zxi132 pc) = true := by decide +kernel
set_option maxRecDepth 100000 in
theorem zh132 : zheadB 132 (zxi132, 2, 2, 10, 132, 0, 0, 1, 0) (yX10_put, cX10_put, some .int, RX10) 0 3239 1001 3237 3238 = true := by decide +kernel
theorem zm132 : zOK 132 (zxi132, 2, 2, 10, 132, 0, 0, 1, 0) (yX10_put, cX10_put, some .int, RX10) := zOK_of zh132 zr132 (fun pc h => zguard h)
def zps133 : List (Nat × Nat) := [(2, 3200), (10, 3000), (15, 2189), (18, 2019), (27, 3000), (32, 2185), (36, 4006), (40, 2195), (44, 4010), (48, 2189), (52, 2185), (55, 2172), (60, 2185), (63, 1148), (66, 3149)]
set_option maxRecDepth 100000 in
theorem zr133 : ∀ pc, pc < 70 → zrowB (yX10_take, cX10_take, some .int, RX10) zps133 pc (zxi133 pc) = true := by decide +kernel
set_option maxRecDepth 100000 in
theorem zh133 : zheadB 133 (zxi133, 2, 2, 10, 133, 0, 0, 1, 0) (yX10_take, cX10_take, some .int, RX10) 0 4005 1001 4003 4004 = true := by decide +kernel
theorem zm133 : zOK 133 (zxi133, 2, 2, 10, 133, 0, 0, 1, 0) (yX10_take, cX10_take, some .int, RX10) := zOK_of zh133 zr133 (fun pc h => zguard h)
def zps134 : List (Nat × Nat) := [(7, 3000), (13, 3200), (21, 2185), (24, 1127), (27, 1046), (35, 3000), (40, 2185), (43, 1156), (56, 3000), (61, 2185), (64, 1156), (72, 3149)]
set_option maxRecDepth 100000 in
theorem zr134 : ∀ pc, pc < 76 → zrowB (yX10_wish, cX10_wish, some .int, RX10) zps134 pc (zxi134 pc) = true := by decide +kernel
set_option maxRecDepth 100000 in
theorem zh134 : zheadB 134 (zxi134, 3, 4, 10, 134, 0, 0, 1, 0) (yX10_wish, cX10_wish, some .int, RX10) 0 4017 1001 4015 4016 = true := by decide +kernel
theorem zm134 : zOK 134 (zxi134, 3, 4, 10, 134, 0, 0, 1, 0) (yX10_wish, cX10_wish, some .int, RX10) := zOK_of zh134 zr134 (fun pc h => zguard h)
def zps135 : List (Nat × Nat) := [(13, 3000), (18, 2185), (22, 2191), (25, 4022), (46, 4027), (69, 3000), (77, 3149)]
set_option maxRecDepth 100000 in
theorem zr135 : ∀ pc, pc < 81 → zrowB (yX10_step, cX10_step, some .int, RX10) zps135 pc (zxi135 pc) = true := by decide +kernel
set_option maxRecDepth 100000 in
theorem zh135 : zheadB 135 (zxi135, 2, 5, 10, 135, 0, 0, 1, 0) (yX10_step, cX10_step, some .int, RX10) 0 4021 1001 4019 4020 = true := by decide +kernel
theorem zm135 : zOK 135 (zxi135, 2, 5, 10, 135, 0, 0, 1, 0) (yX10_step, cX10_step, some .int, RX10) := zOK_of zh135 zr135 (fun pc h => zguard h)
def zps136 : List (Nat × Nat) := [(1, 2189), (4, 2019), (9, 2189), (13, 2185), (16, 2172), (21, 3149)]
set_option maxRecDepth 100000 in
theorem zr136 : ∀ pc, pc < 25 → zrowB (yX10_reset, cX10_reset, some .int, RX10) zps136 pc (zxi136 pc) = true := by decide +kernel
set_option maxRecDepth 100000 in
theorem zh136 : zheadB 136 (zxi136, 1, 2, 10, 136, 0, 0, 1, 0) (yX10_reset, cX10_reset, some .int, RX10) 0 4064 1001 4062 4063 = true := by decide +kernel
theorem zm136 : zOK 136 (zxi136, 1, 2, 10, 136, 0, 0, 1, 0) (yX10_reset, cX10_reset, some .int, RX10) := zOK_of zh136 zr136 (fun pc h => zguard h)
def zps137 : List (Nat × Nat) := [(1, 2189), (4, 2030), (7, 1115), (12, 2189), (15, 2030), (19, 1115), (24, 3149)]
set_option maxRecDepth 100000 in
theorem zr137 : ∀ pc, pc < 28 → zrowB (yX10_cut, cX10_cut, some .int, RX10) zps137 pc (zxi137 pc) = true := by decide +kernel
set_option maxRecDepth 100000 in
theorem zh137 : zheadB 137 (zxi137, 1, 2, 10, 137, 0, 0, 1, 0) (yX10_cut, cX10_cut, some .int, RX10) 0 4068 1001 4066 4067 = true := by decide +kernel
theorem zm137 : zOK 137 (zxi137, 1, 2, 10, 137, 0, 0, 1, 0) (yX10_cut, cX10_cut, some .int, RX10) := zOK_of zh137 zr137 (fun pc h => zguard h)
def zps138 : List (Nat × Nat) := [(1, 2188), (5, 2185), (8, 4073), (16, 2188), (19, 1234), (22, 3149), (30, 3000)]
set_option maxRecDepth 100000 in
theorem zr138 : ∀ pc, pc < 34 → zrowB (yX10_print, cX10_print, some .int, RX10) zps138 pc (zxi138 pc) = true := by decide +kernel
set_option maxRecDepth 100000 in
theorem zh138 : zheadB 138 (zxi138, 1, 1, 10, 138, 0, 0, 1, 0) (yX10_print, cX10_print, some .int, RX10) 0 4072 1001 4070 4071 = true := by decide +kernel
theorem zm138 : zOK 138 (zxi138, 1, 1, 10, 138, 0, 0, 1, 0) (yX10_print, cX10_print, some .int, RX10) := zOK_of zh138 zr138 (fun pc h => zguard h)
def zps139 : List (Nat × Nat) := [(6, 3000), (12, 2188), (15, 1234), (23, 2188), (26, 1232), (31, 3149), (39, 3000)]
set_option maxRecDepth 100000 in
theorem zr139 : ∀ pc, pc < 43 → zrowB (yX10_out, cX10_out, some .int, RX10) zps139 pc (zxi139 pc) = true := by decide +kernel
set_option maxRecDepth 100000 in
theorem zh139 : zheadB 139 (zxi139, 2, 2, 10, 139, 0, 0, 1, 0) (yX10_out, cX10_out, some .int, RX10) 0 4139 1001 4137 4138 = true := by decide +kernel
theorem zm139 : zOK 139 (zxi139, 2, 2, 10, 139, 0, 0, 1, 0) (yX10_out, cX10_out, some .int, RX10) := zOK_of zh139 zr139 (fun pc h => zguard h)
def zps140 : List (Nat × Nat) := [(5, 4144), (12, 3000), (18, 3212), (26, 3000), (31, 2185), (35, 2191), (38, 4022), (43, 2185), (46, 1127), (51, 2191), (55, 4031), (59, 4145), (62, 3149)]
set_option maxRecDepth 100000 in
theorem zr140 : ∀ pc, pc < 66 → zrowB (yX10_map, cX10_map, some .int, RX10) zps140 pc (zxi140 pc) = true := by decide +kernel
set_option maxRecDepth 100000 in
theorem zh140 : zheadB 140 (zxi140, 3, 3, 10, 140, 0, 0, 1, 0) (yX10_map, cX10_map, some .int, RX10) 0 4143 1001 4141 4142 = true := by decide +kernel
theorem zm140 : zOK 140 (zxi140, 3, 3, 10, 140, 0, 0, 1, 0) (yX10_map, cX10_map, some .int, RX10) := zOK_of zh140 zr140 (fun pc h => zguard h)
def zps141 : List (Nat × Nat) := [(5, 4144), (23, 3000), (29, 3212), (37, 3000), (43, 4153), (47, 2192), (50, 2069), (56, 2185), (59, 3166), (94, 2185), (97, 1127), (103, 2191), (110, 4031), (114, 4145), (128, 3149)]
set_option maxRecDepth 100000 in
theorem zr141 : ∀ pc, pc < 132 → zrowB (yX10_ride, cX10_ride, some .int, RX10) zps141 pc (zxi141 pc) = true := by decide +kernel
set_option maxRecDepth 100000 in
theorem zh141 : zheadB 141 (zxi141, 4, 8, 10, 141, 0, 0, 1, 0) (yX10_ride, cX10_ride, some .int, RX10) 0 4152 1001 4150 4151 = true := by decide +kernel
theorem zm141 : zOK 141 (zxi141, 4, 8, 10, 141, 0, 0, 1, 0) (yX10_ride, cX10_ride, some .int, RX10) := zOK_of zh141 zr141 (fun pc h => zguard h)
def zps142 : List (Nat × Nat) := [(2, 3212), (10, 3000), (16, 4153), (21, 2192), (24, 2065), (29, 3149)]
set_option maxRecDepth 100000 in
theorem zr142 : ∀ pc, pc < 33 → zrowB (yX10_round, cX10_round, some .int, RX10) zps142 pc (zxi142 pc) = true := by decide +kernel
set_option maxRecDepth 100000 in
theorem zh142 : zheadB 142 (zxi142, 2, 2, 10, 142, 0, 0, 1, 0) (yX10_round, cX10_round, some .int, RX10) 0 4170 1001 4168 4169 = true := by decide +kernel
theorem zm142 : zOK 142 (zxi142, 2, 2, 10, 142, 0, 0, 1, 0) (yX10_round, cX10_round, some .int, RX10) := zOK_of zh142 zr142 (fun pc h => zguard h)
def zps143 : List (Nat × Nat) := [(11, 3000), (17, 3212), (25, 3000), (31, 4153), (62, 2192), (65, 2069), (70, 3149), (76, 2192), (79, 2067), (84, 3149), (91, 2192), (94, 2067), (99, 4175), (102, 3149)]
set_option maxRecDepth 100000 in
theorem zr143 : ∀ pc, pc < 106 → zrowB (yX10_track, cX10_track, some .int, RX10) zps143 pc (zxi143 pc) = true := by decide +kernel
set_option maxRecDepth 100000 in
theorem zh143 : zheadB 143 (zxi143, 3, 3, 10, 143, 0, 0, 1, 0) (yX10_track, cX10_track, some .int, RX10) 0 4174 1001 4172 4173 = true := by decide +kernel
theorem zm143 : zOK 143 (zxi143, 3, 3, 10, 143, 0, 0, 1, 0) (yX10_track, cX10_track, some .int, RX10) := zOK_of zh143 zr143 (fun pc h => zguard h)
def zps144 : List (Nat × Nat) := [(11, 3000), (17, 4153), (50, 2192), (54, 4183), (57, 3149), (63, 2192), (66, 4187), (69, 3149), (75, 2192), (78, 4192), (82, 3149)]
set_option maxRecDepth 100000 in
theorem zr144 : ∀ pc, pc < 86 → zrowB (yX10_tracks, cX10_tracks, some .int, RX10) zps144 pc (zxi144 pc) = true := by decide +kernel
set_option maxRecDepth 100000 in
theorem zh144 : zheadB 144 (zxi144, 2, 2, 10, 144, 0, 0, 1, 0) (yX10_tracks, cX10_tracks, some .int, RX10) 0 4182 1001 4180 4181 = true := by decide +kernel
theorem zm144 : zOK 144 (zxi144, 2, 2, 10, 144, 0, 0, 1, 0) (yX10_tracks, cX10_tracks, some .int, RX10) := zOK_of zh144 zr144 (fun pc h => zguard h)
def zps145 : List (Nat × Nat) := [(7, 3000), (13, 4153), (18, 2192), (22, 4183), (25, 3149)]
set_option maxRecDepth 100000 in
theorem zr145 : ∀ pc, pc < 29 → zrowB (yX10_ofLength, cX10_ofLength, some .int, RX10) zps145 pc (zxi145 pc) = true := by decide +kernel
set_option maxRecDepth 100000 in
theorem zh145 : zheadB 145 (zxi145, 2, 2, 10, 145, 0, 0, 1, 0) (yX10_ofLength, cX10_ofLength, some .int, RX10) 0 4200 1001 4198 4199 = true := by decide +kernel
theorem zm145 : zOK 145 (zxi145, 2, 2, 10, 145, 0, 0, 1, 0) (yX10_ofLength, cX10_ofLength, some .int, RX10) := zOK_of zh145 zr145 (fun pc h => zguard h)
def zps146 : List (Nat × Nat) := [(11, 3000), (17, 3212), (25, 3212), (33, 3000), (43, 2185), (46, 1127), (49, 1061), (60, 3000), (66, 4153), (70, 2192), (74, 2185), (77, 1127), (81, 2191), (86, 2185), (89, 3166), (92, 4205), (96, 2192), (101, 4217), (109, 3000), (114, 2190), (118, 2015), (122, 2190), (125, 2022), (132, 2190), (135, 2022), (142, 2190), (146, 2019), (150, 2190), (154, 2185), (157, 1127), (161, 2191), (164, 4218), (173, 2190), (176, 2019), (183, 2190), (186, 4225), (189, 3149)]
set_option maxRecDepth 100000 in
theorem zr146 : ∀ pc, pc < 193 → zrowB (yX10_meets, cX10_meets, some .int, RX10) zps146 pc (zxi146 pc) = true := by decide +kernel
set_option maxRecDepth 100000 in
theorem zh146 : zheadB 146 (zxi146, 4, 4, 10, 146, 0, 0, 1, 0) (yX10_meets, cX10_meets, some .int, RX10) 0 4204 1001 4202 4203 = true := by decide +kernel
theorem zm146 : zOK 146 (zxi146, 4, 4, 10, 146, 0, 0, 1, 0) (yX10_meets, cX10_meets, some .int, RX10) := zOK_of zh146 zr146 (fun pc h => zguard h)
def zps147 : List (Nat × Nat) := [(11, 3000), (17, 2189), (20, 2019), (23, 4153), (27, 2192), (31, 2185), (34, 1127), (38, 2191), (42, 2189), (45, 2019), (49, 2185), (52, 3166), (55, 4205), (59, 4233), (67, 3000), (72, 2190), (76, 2189), (79, 4237), (83, 2190), (87, 2185), (90, 1127), (94, 2191), (97, 4218), (101, 2190), (104, 4225), (138, 2190), (141, 2019), (145, 2189), (148, 2019), (152, 3149), (158, 3149), (164, 2190), (168, 2185), (171, 1127), (176, 5001), (179, 3149), (184, 2190), (188, 2185), (191, 1127), (196, 5001), (202, 2190), (206, 2185), (209, 1127), (216, 5001), (219, 3149)]
set_option maxRecDepth 100000 in
theorem zr147 : ∀ pc, pc < 223 → zrowB (yX10_crash, cX10_crash, some .int, RX10) zps147 pc (zxi147 pc) = true := by decide +kernel
set_option maxRecDepth 100000 in
theorem zh147 : zheadB 147 (zxi147, 2, 4, 10, 147, 0, 0, 1, 0) (yX10_crash, cX10_crash, some .int, RX10) 0 4232 1001 4230 4231 = true := by decide +kernel
theorem zm147 : zOK 147 (zxi147, 2, 4, 10, 147, 0, 0, 1, 0) (yX10_crash, cX10_crash, some .int, RX10) := zOK_of zh147 zr147 (fun pc h => zguard h)
def zps148 : List (Nat × Nat) := [(1, 2185), (4, 1148), (12, 3000), (18, 2189), (21, 2019), (24, 4153), (33, 2185), (36, 1148), (44, 2192), (47, 2069), (51, 2189), (54, 2022), (61, 5009), (74, 2185), (77, 3166), (83, 3149)]
set_option maxRecDepth 100000 in
theorem zr148 : ∀ pc, pc < 87 → zrowB (yX10_repeat, cX10_repeat, some .int, RX10) zps148 pc (zxi148 pc) = true := by decide +kernel
set_option maxRecDepth 100000 in
theorem zh148 : zheadB 148 (zxi148, 1, 4, 10, 148, 0, 0, 1, 0) (yX10_repeat, cX10_repeat, some .int, RX10) 0 5008 1001 5006 5007 = true := by decide +kernel
theorem zm148 : zOK 148 (zxi148, 1, 4, 10, 148, 0, 0, 1, 0) (yX10_repeat, cX10_repeat, some .int, RX10) := zOK_of zh148 zr148 (fun pc h => zguard h)
def zps149 : List (Nat × Nat) := [(6, 3000), (12, 4153), (16, 2192), (20, 2185), (23, 1127), (27, 2191), (32, 2185), (35, 3166), (38, 4205), (43, 5014), (54, 3000), (62, 3149)]
set_option maxRecDepth 100000 in
theorem zr149 : ∀ pc, pc < 66 → zrowB (yX10_laid, cX10_laid, some .int, RX10) zps149 pc (zxi149 pc) = true := by decide +kernel
set_option maxRecDepth 100000 in
theorem zh149 : zheadB 149 (zxi149, 2, 3, 10, 149, 0, 0, 1, 0) (yX10_laid, cX10_laid, some .int, RX10) 0 5013 1001 5011 5012 = true := by decide +kernel
theorem zm149 : zOK 149 (zxi149, 2, 3, 10, 149, 0, 0, 1, 0) (yX10_laid, cX10_laid, some .int, RX10) := zOK_of zh149 zr149 (fun pc h => zguard h)
def zps150 : List (Nat × Nat) := [(2, 2189), (5, 2030), (9, 5026)]
set_option maxRecDepth 100000 in
theorem zr150 : ∀ pc, pc < 13 → zrowB (yX10_letter, cX10_letter, some .int, RX10) zps150 pc (zxi150 pc) = true := by decide +kernel
set_option maxRecDepth 100000 in
theorem zh150 : zheadB 150 (zxi150, 2, 2, 10, 150, 0, 0, 1, 0) (yX10_letter, cX10_letter, some .int, RX10) 0 5025 1001 5023 5024 = true := by decide +kernel
theorem zm150 : zOK 150 (zxi150, 2, 2, 10, 150, 0, 0, 1, 0) (yX10_letter, cX10_letter, some .int, RX10) := zOK_of zh150 zr150 (fun pc h => zguard h)
def zps151 : List (Nat × Nat) := [(2, 2185), (5, 1164), (9, 5026)]
set_option maxRecDepth 100000 in
theorem zr151 : ∀ pc, pc < 13 → zrowB (yX10_wished, cX10_wished, some .int, RX10) zps151 pc (zxi151 pc) = true := by decide +kernel
set_option maxRecDepth 100000 in
theorem zh151 : zheadB 151 (zxi151, 2, 2, 10, 151, 0, 0, 1, 0) (yX10_wished, cX10_wished, some .int, RX10) 0 5034 1001 5032 5033 = true := by decide +kernel
theorem zm151 : zOK 151 (zxi151, 2, 2, 10, 151, 0, 0, 1, 0) (yX10_wished, cX10_wished, some .int, RX10) := zOK_of zh151 zr151 (fun pc h => zguard h)
def zps152 : List (Nat × Nat) := [(12, 3000), (28, 2185), (31, 1160), (39, 3000), (86, 2189), (89, 2030), (92, 5039), (95, 3149), (101, 2189), (104, 2030), (108, 2185), (111, 1148), (114, 5044), (117, 3149), (123, 5056), (134, 3149), (141, 5115), (152, 3149), (158, 5123), (169, 3149), (175, 5127), (186, 3149), (192, 5135), (203, 3149)]
set_option maxRecDepth 100000 in
theorem zr152 : ∀ pc, pc < 207 → zrowB (yX10_braid, cX10_braid, some .int, RX10) zps152 pc (zxi152 pc) = true := by decide +kernel
set_option maxRecDepth 100000 in
theorem zh152 : zheadB 152 (zxi152, 2, 2, 10, 152, 0, 0, 1, 0) (yX10_braid, cX10_braid, some .int, RX10) 0 5038 1001 5036 5037 = true := by decide +kernel
theorem zm152 : zOK 152 (zxi152, 2, 2, 10, 152, 0, 0, 1, 0) (yX10_braid, cX10_braid, some .int, RX10) := zOK_of zh152 zr152 (fun pc h => zguard h)
def zps153 : List (Nat × Nat) := [(2, 5143), (10, 3000), (16, 2189), (19, 2030), (23, 5147), (26, 3149)]
set_option maxRecDepth 100000 in
theorem zr153 : ∀ pc, pc < 30 → zrowB (yX10_ends, cX10_ends, some .int, RX10) zps153 pc (zxi153 pc) = true := by decide +kernel
set_option maxRecDepth 100000 in
theorem zh153 : zheadB 153 (zxi153, 2, 2, 10, 153, 0, 0, 1, 0) (yX10_ends, cX10_ends, some .int, RX10) 0 5142 1001 5140 5141 = true := by decide +kernel
theorem zm153 : zOK 153 (zxi153, 2, 2, 10, 153, 0, 0, 1, 0) (yX10_ends, cX10_ends, some .int, RX10) := zOK_of zh153 zr153 (fun pc h => zguard h)
def zps154 : List (Nat × Nat) := [(2, 5143), (10, 5143), (18, 3000), (29, 3000), (35, 2189), (38, 2030), (43, 5152), (46, 3149)]
set_option maxRecDepth 100000 in
theorem zr154 : ∀ pc, pc < 50 → zrowB (yX10_pair, cX10_pair, some .int, RX10) zps154 pc (zxi154 pc) = true := by decide +kernel
set_option maxRecDepth 100000 in
theorem zh154 : zheadB 154 (zxi154, 3, 3, 10, 154, 0, 0, 1, 0) (yX10_pair, cX10_pair, some .int, RX10) 0 5151 1001 5149 5150 = true := by decide +kernel
theorem zm154 : zOK 154 (zxi154, 3, 3, 10, 154, 0, 0, 1, 0) (yX10_pair, cX10_pair, some .int, RX10) := zOK_of zh154 zr154 (fun pc h => zguard h)
def zps155 : List (Nat × Nat) := [(2, 5143), (19, 3000), (54, 2189), (57, 2030), (62, 5160), (65, 3149), (71, 2189), (74, 2030), (79, 5160), (82, 3149), (88, 2189), (91, 2030), (95, 5164), (98, 3149), (104, 2189), (107, 2030), (111, 5168), (114, 3149)]
set_option maxRecDepth 100000 in
theorem zr155 : ∀ pc, pc < 118 → zrowB (yX10_thread, cX10_thread, some .int, RX10) zps155 pc (zxi155 pc) = true := by decide +kernel
set_option maxRecDepth 100000 in
theorem zh155 : zheadB 155 (zxi155, 3, 3, 10, 155, 0, 0, 1, 0) (yX10_thread, cX10_thread, some .int, RX10) 0 5159 1001 5157 5158 = true := by decide +kernel
theorem zm155 : zOK 155 (zxi155, 3, 3, 10, 155, 0, 0, 1, 0) (yX10_thread, cX10_thread, some .int, RX10) := zOK_of zh155 zr155 (fun pc h => zguard h)
def zps156 : List (Nat × Nat) := [(12, 3000), (17, 2185), (20, 1160), (28, 3000), (35, 5115), (46, 3149)]
set_option maxRecDepth 100000 in
theorem zr156 : ∀ pc, pc < 50 → zrowB (yX10_times, cX10_times, some .int, RX10) zps156 pc (zxi156 pc) = true := by decide +kernel
set_option maxRecDepth 100000 in
theorem zh156 : zheadB 156 (zxi156, 2, 2, 10, 156, 0, 0, 1, 0) (yX10_times, cX10_times, some .int, RX10) 0 5175 1001 5173 5174 = true := by decide +kernel
theorem zm156 : zOK 156 (zxi156, 2, 2, 10, 156, 0, 0, 1, 0) (yX10_times, cX10_times, some .int, RX10) := zOK_of zh156 zr156 (fun pc h => zguard h)
def zps157 : List (Nat × Nat) := [(13, 3000), (18, 5180), (23, 2185), (26, 3161), (41, 5184), (49, 3149), (61, 3000)]
set_option maxRecDepth 100000 in
theorem zr157 : ∀ pc, pc < 65 → zrowB (yX10_search, cX10_search, some .int, RX10) zps157 pc (zxi157 pc) = true := by decide +kernel
set_option maxRecDepth 100000 in
theorem zh157 : zheadB 157 (zxi157, 2, 4, 10, 157, 0, 0, 1, 0) (yX10_search, cX10_search, some .int, RX10) 0 5179 1001 5177 5178 = true := by decide +kernel
theorem zm157 : zOK 157 (zxi157, 2, 4, 10, 157, 0, 0, 1, 0) (yX10_search, cX10_search, some .int, RX10) := zOK_of zh157 zr157 (fun pc h => zguard h)
def zps158 : List (Nat × Nat) := [(18, 2185), (21, 3161), (30, 3000), (45, 3000), (50, 5180), (56, 5184), (95, 3149), (107, 2190), (110, 2019), (113, 3149), (121, 3000), (133, 2190), (136, 4225), (139, 3149), (147, 3000), (159, 5206), (162, 3149), (170, 3000), (181, 2190), (184, 2030), (187, 1115), (210, 2190), (213, 2030), (216, 1115), (219, 3149), (227, 3000)]
set_option maxRecDepth 100000 in
theorem zr158 : ∀ pc, pc < 231 → zrowB (yX10_refusal, cX10_refusal, some .int, RX10) zps158 pc (zxi158 pc) = true := by decide +kernel
set_option maxRecDepth 100000 in
theorem zh158 : zheadB 158 (zxi158, 4, 6, 10, 158, 0, 0, 1, 0) (yX10_refusal, cX10_refusal, some .int, RX10) 0 5217 1001 5215 5216 = true := by decide +kernel
theorem zm158 : zOK 158 (zxi158, 4, 6, 10, 158, 0, 0, 1, 0) (yX10_refusal, cX10_refusal, some .int, RX10) := zOK_of zh158 zr158 (fun pc h => zguard h)
def zps159 : List (Nat × Nat) := [(22, 3000), (27, 5180), (32, 2185), (35, 3161), (56, 5184), (75, 3149)]
set_option maxRecDepth 100000 in
theorem zr159 : ∀ pc, pc < 79 → zrowB (yX10_refused, cX10_refused, some .int, RX10) zps159 pc (zxi159 pc) = true := by decide +kernel
set_option maxRecDepth 100000 in
theorem zh159 : zheadB 159 (zxi159, 3, 6, 10, 159, 0, 0, 1, 0) (yX10_refused, cX10_refused, some .int, RX10) 0 5221 1001 5219 5220 = true := by decide +kernel
theorem zm159 : zOK 159 (zxi159, 3, 6, 10, 159, 0, 0, 1, 0) (yX10_refused, cX10_refused, some .int, RX10) := zOK_of zh159 zr159 (fun pc h => zguard h)
def zps160 : List (Nat × Nat) := [(12, 3000), (18, 3200), (26, 3212), (34, 3000), (39, 2195), (42, 2112), (52, 3000), (57, 2195), (63, 5226), (68, 2195), (71, 2112), (74, 3149)]
set_option maxRecDepth 100000 in
theorem zr160 : ∀ pc, pc < 78 → zrowB (yX10_seen, cX10_seen, some .int, RX10) zps160 pc (zxi160 pc) = true := by decide +kernel
set_option maxRecDepth 100000 in
theorem zh160 : zheadB 160 (zxi160, 4, 4, 10, 160, 0, 0, 1, 0) (yX10_seen, cX10_seen, some .int, RX10) 0 5225 1001 5223 5224 = true := by decide +kernel
theorem zm160 : zOK 160 (zxi160, 4, 4, 10, 160, 0, 0, 1, 0) (yX10_seen, cX10_seen, some .int, RX10) := zOK_of zh160 zr160 (fun pc h => zguard h)
def zps161 : List (Nat × Nat) := [(1, 2195), (4, 2112), (9, 2195), (13, 2112), (18, 3149)]
set_option maxRecDepth 100000 in
theorem zr161 : ∀ pc, pc < 22 → zrowB (yX10_forget, cX10_forget, some .int, RX10) zps161 pc (zxi161 pc) = true := by decide +kernel
set_option maxRecDepth 100000 in
theorem zh161 : zheadB 161 (zxi161, 1, 2, 10, 161, 0, 0, 1, 0) (yX10_forget, cX10_forget, some .int, RX10) 0 5233 1001 5231 5232 = true := by decide +kernel
theorem zm161 : zOK 161 (zxi161, 1, 2, 10, 161, 0, 0, 1, 0) (yX10_forget, cX10_forget, some .int, RX10) := zOK_of zh161 zr161 (fun pc h => zguard h)
def zps162 : List (Nat × Nat) := [(11, 3000), (16, 2196), (20, 2185), (24, 2195), (28, 2190), (31, 5238), (35, 2196), (38, 2134), (46, 3000), (56, 2196), (59, 2132), (66, 2196), (69, 2134), (72, 3149)]
set_option maxRecDepth 100000 in
theorem zr162 : ∀ pc, pc < 76 → zrowB (yX10_name, cX10_name, some .int, RX10) zps162 pc (zxi162 pc) = true := by decide +kernel
set_option maxRecDepth 100000 in
theorem zh162 : zheadB 162 (zxi162, 2, 2, 10, 162, 0, 0, 1, 0) (yX10_name, cX10_name, some .int, RX10) 0 5237 1001 5235 5236 = true := by decide +kernel
theorem zm162 : zOK 162 (zxi162, 2, 2, 10, 162, 0, 0, 1, 0) (yX10_name, cX10_name, some .int, RX10) := zOK_of zh162 zr162 (fun pc h => zguard h)
def zps163 : List (Nat × Nat) := [(10, 3000), (15, 2196), (19, 2185), (23, 2195), (27, 2190), (30, 5238), (35, 2196), (38, 2134), (46, 2196), (49, 2132), (57, 3000), (63, 2196), (68, 6041), (71, 3149)]
set_option maxRecDepth 100000 in
theorem zr163 : ∀ pc, pc < 75 → zrowB (yX10_named, cX10_named, some .int, RX10) zps163 pc (zxi163 pc) = true := by decide +kernel
set_option maxRecDepth 100000 in
theorem zh163 : zheadB 163 (zxi163, 3, 3, 10, 163, 0, 0, 1, 0) (yX10_named, cX10_named, some .int, RX10) 0 6040 1001 6038 6039 = true := by decide +kernel
theorem zm163 : zOK 163 (zxi163, 3, 3, 10, 163, 0, 0, 1, 0) (yX10_named, cX10_named, some .int, RX10) := zOK_of zh163 zr163 (fun pc h => zguard h)
def zps164 : List (Nat × Nat) := [(2, 2184)]
set_option maxRecDepth 100000 in
theorem zr164 : ∀ pc, pc < 7 → zrowB (yX10_give, cX10_give, some .int, RX10) zps164 pc (zxi164 pc) = true := by decide +kernel
set_option maxRecDepth 100000 in
theorem zh164 : zheadB 164 (zxi164, 2, 2, 10, 164, 0, 0, 1, 0) (yX10_give, cX10_give, some .int, RX10) 0 3152 1001 3151 31 = true := by decide +kernel
theorem zm164 : zOK 164 (zxi164, 2, 2, 10, 164, 0, 0, 1, 0) (yX10_give, cX10_give, some .int, RX10) := zOK_of zh164 zr164 (fun pc h => zguard h)
def zps165 : List (Nat × Nat) := [(2, 2184)]
set_option maxRecDepth 100000 in
theorem zr165 : ∀ pc, pc < 7 → zrowB (yX10_refuse, cX10_refuse, some .int, RX10) zps165 pc (zxi165 pc) = true := by decide +kernel
set_option maxRecDepth 100000 in
theorem zh165 : zheadB 165 (zxi165, 2, 2, 10, 165, 0, 0, 1, 0) (yX10_refuse, cX10_refuse, some .int, RX10) 0 3003 1001 3002 9 = true := by decide +kernel
theorem zm165 : zOK 165 (zxi165, 2, 2, 10, 165, 0, 0, 1, 0) (yX10_refuse, cX10_refuse, some .int, RX10) := zOK_of zh165 zr165 (fun pc h => zguard h)
def zps166 : List (Nat × Nat) := [(6, 2185), (9, 1127), (12, 1052)]
set_option maxRecDepth 100000 in
theorem zr166 : ∀ pc, pc < 24 → zrowB (yX10_hasSwitch, cX10_hasSwitch, some .boolean, RX10) zps166 pc (zxi166 pc) = true := by decide +kernel
set_option maxRecDepth 100000 in
theorem zh166 : zheadB 166 (zxi166, 2, 2, 10, 166, 0, 0, 2, 0) (yX10_hasSwitch, cX10_hasSwitch, some .boolean, RX10) 0 3180 1001 3179 34 = true := by decide +kernel
theorem zm166 : zOK 166 (zxi166, 2, 2, 10, 166, 0, 0, 2, 0) (yX10_hasSwitch, cX10_hasSwitch, some .boolean, RX10) := zOK_of zh166 zr166 (fun pc h => zguard h)
def zps167 : List (Nat × Nat) := [(6, 2185), (9, 1127), (12, 1046)]
set_option maxRecDepth 100000 in
theorem zr167 : ∀ pc, pc < 24 → zrowB (yX10_hasSlot, cX10_hasSlot, some .boolean, RX10) zps167 pc (zxi167 pc) = true := by decide +kernel
set_option maxRecDepth 100000 in
theorem zh167 : zheadB 167 (zxi167, 2, 2, 10, 167, 0, 0, 2, 0) (yX10_hasSlot, cX10_hasSlot, some .boolean, RX10) 0 3215 1001 3214 39 = true := by decide +kernel
theorem zm167 : zOK 167 (zxi167, 2, 2, 10, 167, 0, 0, 2, 0) (yX10_hasSlot, cX10_hasSlot, some .boolean, RX10) := zOK_of zh167 zr167 (fun pc h => zguard h)
def zps168 : List (Nat × Nat) := [(6, 2185), (9, 1148)]
set_option maxRecDepth 100000 in
theorem zr168 : ∀ pc, pc < 21 → zrowB (yX10_hasBobbin, cX10_hasBobbin, some .boolean, RX10) zps168 pc (zxi168 pc) = true := by decide +kernel
set_option maxRecDepth 100000 in
theorem zh168 : zheadB 168 (zxi168, 2, 2, 10, 168, 0, 0, 2, 0) (yX10_hasBobbin, cX10_hasBobbin, some .boolean, RX10) 0 3203 1001 3202 37 = true := by decide +kernel
theorem zm168 : zOK 168 (zxi168, 2, 2, 10, 168, 0, 0, 2, 0) (yX10_hasBobbin, cX10_hasBobbin, some .boolean, RX10) := zOK_of zh168 zr168 (fun pc h => zguard h)
def zps169 : List (Nat × Nat) := [(7, 2185), (10, 1148)]
set_option maxRecDepth 100000 in
theorem zr169 : ∀ pc, pc < 22 → zrowB (yX10_hasPlace, cX10_hasPlace, some .boolean, RX10) zps169 pc (zxi169 pc) = true := by decide +kernel
set_option maxRecDepth 100000 in
theorem zh169 : zheadB 169 (zxi169, 2, 2, 10, 169, 0, 0, 2, 0) (yX10_hasPlace, cX10_hasPlace, some .boolean, RX10) 0 5146 1001 5145 103 = true := by decide +kernel
theorem zm169 : zOK 169 (zxi169, 2, 2, 10, 169, 0, 0, 2, 0) (yX10_hasPlace, cX10_hasPlace, some .boolean, RX10) := zOK_of zh169 zr169 (fun pc h => zguard h)
def zps170 : List (Nat × Nat) := [(1, 2189), (5, 2185), (8, 1127), (12, 2191), (16, 2189), (19, 2019), (22, 4031), (26, 4035), (36, 2189), (40, 2185), (43, 1127), (46, 4039), (50, 2189), (53, 2030), (56, 1115), (60, 2189), (63, 2028), (76, 2189), (79, 4052), (83, 2189), (86, 4056)]
set_option maxRecDepth 100000 in
theorem zr170 : ∀ pc, pc < 91 → zrowB (yX10_advance, cX10_advance, some .int, RX10) zps170 pc (zxi170 pc) = true := by decide +kernel
set_option maxRecDepth 100000 in
theorem zh170 : zheadB 170 (zxi170, 1, 1, 10, 170, 0, 0, 1, 0) (yX10_advance, cX10_advance, some .int, RX10) 0 4030 1001 4029 44 = true := by decide +kernel
theorem zm170 : zOK 170 (zxi170, 1, 1, 10, 170, 0, 0, 1, 0) (yX10_advance, cX10_advance, some .int, RX10) := zOK_of zh170 zr170 (fun pc h => zguard h)
def zps171 : List (Nat × Nat) := [(1, 2185), (5, 2191), (8, 4022), (12, 2192), (16, 2185), (19, 1127), (23, 2191), (28, 2185), (31, 3166), (34, 4157)]
set_option maxRecDepth 100000 in
theorem zr171 : ∀ pc, pc < 38 → zrowB (yX10_layRounds, cX10_layRounds, none, RX10) zps171 pc (zxi171 pc) = true := by decide +kernel
set_option maxRecDepth 100000 in
theorem zh171 : zheadB 171 (zxi171, 2, 2, 10, 171, 0, 0, 0, 0) (yX10_layRounds, cX10_layRounds, none, RX10) 0 4156 1001 4155 63 = true := by decide +kernel
theorem zm171 : zOK 171 (zxi171, 2, 2, 10, 171, 0, 0, 0, 0) (yX10_layRounds, cX10_layRounds, none, RX10) := zOK_of zh171 zr171 (fun pc h => zguard h)
def zps172 : List (Nat × Nat) := [(6, 2185), (9, 1148), (16, 2192), (19, 2067), (23, 2185), (26, 1153)]
set_option maxRecDepth 100000 in
theorem zr172 : ∀ pc, pc < 47 → zrowB (yX10_startsOnTrack, cX10_startsOnTrack, some .int, RX10) zps172 pc (zxi172 pc) = true := by decide +kernel
set_option maxRecDepth 100000 in
theorem zh172 : zheadB 172 (zxi172, 2, 4, 10, 172, 0, 0, 1, 0) (yX10_startsOnTrack, cX10_startsOnTrack, some .int, RX10) 0 4178 1001 4177 66 = true := by decide +kernel
theorem zm172 : zOK 172 (zxi172, 2, 4, 10, 172, 0, 0, 1, 0) (yX10_startsOnTrack, cX10_startsOnTrack, some .int, RX10) := zOK_of zh172 zr172 (fun pc h => zguard h)
def zps173 : List (Nat × Nat) := [(4, 2185), (7, 1148), (21, 2192), (25, 2189), (28, 2022), (34, 2189), (37, 2022), (42, 4217)]
set_option maxRecDepth 100000 in
theorem zr173 : ∀ pc, pc < 64 → zrowB (yX10_foesAmongBobbins, cX10_foesAmongBobbins, some .boolean, RX10) zps173 pc (zxi173 pc) = true := by decide +kernel
set_option maxRecDepth 100000 in
theorem zh173 : zheadB 173 (zxi173, 1, 3, 10, 173, 0, 0, 2, 0) (yX10_foesAmongBobbins, cX10_foesAmongBobbins, some .boolean, RX10) 0 4236 1001 4235 75 = true := by decide +kernel
theorem zm173 : zOK 173 (zxi173, 1, 3, 10, 173, 0, 0, 2, 0) (yX10_foesAmongBobbins, cX10_foesAmongBobbins, some .boolean, RX10) := zOK_of zh173 zr173 (fun pc h => zguard h)
def zps174 : List (Nat × Nat) := [(1, 2190), (5, 2015), (12, 2185), (15, 1127), (18, 1046), (25, 2190), (28, 2015), (38, 5018), (45, 2190), (48, 2022), (52, 2190), (55, 2015), (61, 2190), (65, 2015), (70, 2015), (81, 2190), (84, 2015), (91, 2190), (94, 2022)]
set_option maxRecDepth 100000 in
theorem zr174 : ∀ pc, pc < 104 → zrowB (yX10_kthLaid, cX10_kthLaid, some .int, RX10) zps174 pc (zxi174 pc) = true := by decide +kernel
set_option maxRecDepth 100000 in
theorem zh174 : zheadB 174 (zxi174, 2, 3, 10, 174, 0, 0, 1, 0) (yX10_kthLaid, cX10_kthLaid, some .int, RX10) 0 5017 1001 5016 78 = true := by decide +kernel
theorem zm174 : zOK 174 (zxi174, 2, 3, 10, 174, 0, 0, 1, 0) (yX10_kthLaid, cX10_kthLaid, some .int, RX10) := zOK_of zh174 zr174 (fun pc h => zguard h)
def zps175 : List (Nat × Nat) := [(4, 2190), (7, 2015), (14, 2190), (17, 2022), (24, 2185), (27, 1127), (30, 1061), (40, 2192), (45, 4217)]
set_option maxRecDepth 100000 in
theorem zr175 : ∀ pc, pc < 61 → zrowB (yX10_fitsLaid, cX10_fitsLaid, some .boolean, RX10) zps175 pc (zxi175 pc) = true := by decide +kernel
set_option maxRecDepth 100000 in
theorem zh175 : zheadB 175 (zxi175, 2, 4, 10, 175, 0, 0, 2, 0) (yX10_fitsLaid, cX10_fitsLaid, some .boolean, RX10) 0 5021 1001 5020 79 = true := by decide +kernel
theorem zm175 : zOK 175 (zxi175, 2, 4, 10, 175, 0, 0, 2, 0) (yX10_fitsLaid, cX10_fitsLaid, some .boolean, RX10) := zOK_of zh175 zr175 (fun pc h => zguard h)
def zps176 : List (Nat × Nat) := [(6, 3000), (12, 5030), (20, 1111), (25, 3149), (33, 3000)]
set_option maxRecDepth 100000 in
theorem zr176 : ∀ pc, pc < 37 → zrowB (yX10_letterOf, cX10_letterOf, some .int, RX10) zps176 pc (zxi176 pc) = true := by decide +kernel
set_option maxRecDepth 100000 in
theorem zh176 : zheadB 176 (zxi176, 3, 3, 10, 176, 0, 0, 1, 0) (yX10_letterOf, cX10_letterOf, some .int, RX10) 0 5029 1001 5028 80 = true := by decide +kernel
theorem zm176 : zOK 176 (zxi176, 3, 3, 10, 176, 0, 0, 1, 0) (yX10_letterOf, cX10_letterOf, some .int, RX10) := zOK_of zh176 zr176 (fun pc h => zguard h)
def zps177 : List (Nat × Nat) := [(1, 2193), (5, 2185), (8, 1148), (11, 5060), (15, 2194), (19, 2185), (22, 1148), (25, 5060), (29, 2193), (33, 2189), (36, 2030), (40, 5064), (44, 2193), (48, 2194), (51, 5111)]
set_option maxRecDepth 100000 in
theorem zr177 : ∀ pc, pc < 55 → zrowB (yX10_isEmptyBraid, cX10_isEmptyBraid, some .boolean, RX10) zps177 pc (zxi177 pc) = true := by decide +kernel
set_option maxRecDepth 100000 in
theorem zh177 : zheadB 177 (zxi177, 1, 1, 10, 177, 0, 0, 2, 0) (yX10_isEmptyBraid, cX10_isEmptyBraid, some .boolean, RX10) 0 5059 1001 5058 84 = true := by decide +kernel
theorem zm177 : zOK 177 (zxi177, 1, 1, 10, 177, 0, 0, 2, 0) (yX10_isEmptyBraid, cX10_isEmptyBraid, some .boolean, RX10) := zOK_of zh177 zr177 (fun pc h => zguard h)
def zps178 : List (Nat × Nat) := [(1, 2185), (4, 1164), (8, 2185), (11, 1148), (14, 5119), (23, 2194), (27, 2185), (30, 1148), (33, 5060), (37, 2194), (41, 2185), (44, 1164), (48, 5064), (52, 2193), (56, 2185), (59, 1148), (62, 5060), (73, 2193), (77, 2189), (80, 2030), (84, 5064), (94, 2193), (98, 2194), (101, 5111)]
set_option maxRecDepth 100000 in
theorem zr178 : ∀ pc, pc < 105 → zrowB (yX10_isWishedBraid, cX10_isWishedBraid, some .boolean, RX10) zps178 pc (zxi178 pc) = true := by decide +kernel
set_option maxRecDepth 100000 in
theorem zh178 : zheadB 178 (zxi178, 2, 3, 10, 178, 0, 0, 2, 0) (yX10_isWishedBraid, cX10_isWishedBraid, some .boolean, RX10) 0 5118 1001 5117 97 = true := by decide +kernel
theorem zm178 : zOK 178 (zxi178, 2, 3, 10, 178, 0, 0, 2, 0) (yX10_isWishedBraid, cX10_isWishedBraid, some .boolean, RX10) := zOK_of zh178 zr178 (fun pc h => zguard h)
def zps179 : List (Nat × Nat) := [(1, 2193), (5, 2185), (8, 1148), (11, 5060), (15, 2194), (19, 2185), (22, 1148), (25, 5060), (29, 2193), (33, 2189), (36, 2030), (40, 5064), (44, 2194), (48, 2189), (51, 2030), (55, 5064), (59, 2193), (63, 2194), (66, 5111)]
set_option maxRecDepth 100000 in
theorem zr179 : ∀ pc, pc < 70 → zrowB (yX10_isMirrored, cX10_isMirrored, some .boolean, RX10) zps179 pc (zxi179 pc) = true := by decide +kernel
set_option maxRecDepth 100000 in
theorem zh179 : zheadB 179 (zxi179, 1, 1, 10, 179, 0, 0, 2, 0) (yX10_isMirrored, cX10_isMirrored, some .boolean, RX10) 0 5126 1001 5125 99 = true := by decide +kernel
theorem zm179 : zOK 179 (zxi179, 1, 1, 10, 179, 0, 0, 2, 0) (yX10_isMirrored, cX10_isMirrored, some .boolean, RX10) := zOK_of zh179 zr179 (fun pc h => zguard h)
def zps180 : List (Nat × Nat) := [(1, 2193), (5, 2185), (8, 1148), (11, 5060), (15, 2194), (19, 2185), (22, 1148), (25, 5060), (29, 2193), (33, 2189), (36, 2030), (40, 5064), (44, 2194), (48, 2189), (51, 2030), (54, 5131), (58, 2193), (62, 2194), (65, 5111)]
set_option maxRecDepth 100000 in
theorem zr180 : ∀ pc, pc < 69 → zrowB (yX10_isBackwards, cX10_isBackwards, some .boolean, RX10) zps180 pc (zxi180 pc) = true := by decide +kernel
set_option maxRecDepth 100000 in
theorem zh180 : zheadB 180 (zxi180, 1, 1, 10, 180, 0, 0, 2, 0) (yX10_isBackwards, cX10_isBackwards, some .boolean, RX10) 0 5130 1001 5129 100 = true := by decide +kernel
theorem zm180 : zOK 180 (zxi180, 1, 1, 10, 180, 0, 0, 2, 0) (yX10_isBackwards, cX10_isBackwards, some .boolean, RX10) := zOK_of zh180 zr180 (fun pc h => zguard h)
def zps181 : List (Nat × Nat) := [(1, 2185), (4, 1164), (8, 2185), (11, 1148), (14, 5119), (23, 2193), (27, 2185), (30, 1148), (33, 5060), (37, 2193), (41, 2189), (44, 2030), (48, 5064), (52, 2193), (56, 2185), (59, 1164), (63, 5064), (67, 2194), (71, 2185), (74, 1148), (77, 5060), (81, 2194), (85, 2185), (88, 1164), (92, 5064), (96, 2194), (100, 2189), (103, 2030), (107, 5064), (111, 2193), (115, 2194), (118, 5111)]
set_option maxRecDepth 100000 in
theorem zr181 : ∀ pc, pc < 122 → zrowB (yX10_isEitherWayRound, cX10_isEitherWayRound, some .boolean, RX10) zps181 pc (zxi181 pc) = true := by decide +kernel
set_option maxRecDepth 100000 in
theorem zh181 : zheadB 181 (zxi181, 1, 1, 10, 181, 0, 0, 2, 0) (yX10_isEitherWayRound, cX10_isEitherWayRound, some .boolean, RX10) 0 5138 1001 5137 102 = true := by decide +kernel
theorem zm181 : zOK 181 (zxi181, 1, 1, 10, 181, 0, 0, 2, 0) (yX10_isEitherWayRound, cX10_isEitherWayRound, some .boolean, RX10) := zOK_of zh181 zr181 (fun pc h => zguard h)
def zps182 : List (Nat × Nat) := [(1, 2185), (5, 2191), (8, 4022), (12, 2194), (16, 2185), (19, 1148), (22, 5060), (26, 2185), (29, 1160), (36, 2185), (39, 1164), (43, 2185), (46, 1148), (49, 5119), (56, 2194), (60, 2185), (63, 1164), (67, 5064)]
set_option maxRecDepth 100000 in
theorem zr182 : ∀ pc, pc < 71 → zrowB (yX10_prepareSearch, cX10_prepareSearch, none, RX10) zps182 pc (zxi182 pc) = true := by decide +kernel
set_option maxRecDepth 100000 in
theorem zh182 : zheadB 182 (zxi182, 1, 1, 10, 182, 0, 0, 0, 0) (yX10_prepareSearch, cX10_prepareSearch, none, RX10) 0 5183 1001 5182 108 = true := by decide +kernel
theorem zm182 : zOK 182 (zxi182, 1, 1, 10, 182, 0, 0, 0, 0) (yX10_prepareSearch, cX10_prepareSearch, none, RX10) := zOK_of zh182 zr182 (fun pc h => zguard h)
def zps183 : List (Nat × Nat) := [(1, 2190), (5, 2185), (8, 2172), (12, 2190), (16, 2185), (19, 1127), (23, 2191), (28, 2185), (32, 5188), (36, 2185), (40, 5196), (43, 5200), (52, 5206), (62, 2190), (65, 2030), (68, 1115), (80, 2185), (83, 1160), (90, 5210)]
set_option maxRecDepth 100000 in
theorem zr183 : ∀ pc, pc < 102 → zrowB (yX10_whyRefused, cX10_whyRefused, some .int, RX10) zps183 pc (zxi183 pc) = true := by decide +kernel
set_option maxRecDepth 100000 in
theorem zh183 : zheadB 183 (zxi183, 3, 3, 10, 183, 0, 0, 1, 0) (yX10_whyRefused, cX10_whyRefused, some .int, RX10) 0 5187 1001 5186 109 = true := by decide +kernel
theorem zm183 : zOK 183 (zxi183, 3, 3, 10, 183, 0, 0, 1, 0) (yX10_whyRefused, cX10_whyRefused, some .int, RX10) := zOK_of zh183 zr183 (fun pc h => zguard h)
def zps184 : List (Nat × Nat) := [(4, 2185), (7, 1148), (14, 2185), (17, 1156), (27, 2185), (30, 1156), (36, 2190), (39, 2022)]
set_option maxRecDepth 100000 in
theorem zr184 : ∀ pc, pc < 57 → zrowB (yX10_firstMisplaced, cX10_firstMisplaced, some .int, RX10) zps184 pc (zxi184 pc) = true := by decide +kernel
set_option maxRecDepth 100000 in
theorem zh184 : zheadB 184 (zxi184, 1, 2, 10, 184, 0, 0, 1, 0) (yX10_firstMisplaced, cX10_firstMisplaced, some .int, RX10) 0 5209 1001 5208 114 = true := by decide +kernel
theorem zm184 : zOK 184 (zxi184, 1, 2, 10, 184, 0, 0, 1, 0) (yX10_firstMisplaced, cX10_firstMisplaced, some .int, RX10) := zOK_of zh184 zr184 (fun pc h => zguard h)
def zps185 : List (Nat × Nat) := [(1, 2185), (4, 1164), (8, 2185), (11, 1148), (14, 5119), (23, 2190), (26, 2030), (29, 5039), (33, 2185), (36, 1164), (39, 5039), (48, 2193), (52, 2185), (55, 1148), (58, 5060), (62, 2193), (66, 2190), (69, 2030), (73, 5064), (77, 2193), (81, 2194), (84, 5111)]
set_option maxRecDepth 100000 in
theorem zr185 : ∀ pc, pc < 88 → zrowB (yX10_trialMatchesWished, cX10_trialMatchesWished, some .boolean, RX10) zps185 pc (zxi185 pc) = true := by decide +kernel
set_option maxRecDepth 100000 in
theorem zh185 : zheadB 185 (zxi185, 1, 1, 10, 185, 0, 0, 2, 0) (yX10_trialMatchesWished, cX10_trialMatchesWished, some .boolean, RX10) 0 5213 1001 5212 115 = true := by decide +kernel
theorem zm185 : zOK 185 (zxi185, 1, 1, 10, 185, 0, 0, 2, 0) (yX10_trialMatchesWished, cX10_trialMatchesWished, some .boolean, RX10) := zOK_of zh185 zr185 (fun pc h => zguard h)
def zps186 : List (Nat × Nat) := [(3, 4034)]
set_option maxRecDepth 100000 in
theorem zr186 : ∀ pc, pc < 7 → zrowB (yX10_phase, cX10_phase, some .int, RX10) zps186 pc (zxi186 pc) = true := by decide +kernel
set_option maxRecDepth 100000 in
theorem zh186 : zheadB 186 (zxi186, 1, 1, 10, 186, 0, 0, 1, 0) (yX10_phase, cX10_phase, some .int, RX10) 2 4033 1001 4032 0 = true := by decide +kernel
theorem zm186 : zOK 186 (zxi186, 1, 1, 10, 186, 0, 0, 1, 0) (yX10_phase, cX10_phase, some .int, RX10) := zOK_of zh186 zr186 (fun pc h => zguard h)
def zps187 : List (Nat × Nat) := []
set_option maxRecDepth 100000 in
theorem zr187 : ∀ pc, pc < 62 → zrowB (yX10_leastCommon, cX10_leastCommon, some .long, RX10) zps187 pc (zxi187 pc) = true := by decide +kernel
set_option maxRecDepth 100000 in
theorem zh187 : zheadB 187 (zxi187, 2, 11, 10, 187, 0, 0, 3, 0) (yX10_leastCommon, cX10_leastCommon, some .long, RX10) 2 3172 1001 3171 0 = true := by decide +kernel
theorem zm187 : zOK 187 (zxi187, 2, 11, 10, 187, 0, 0, 3, 0) (yX10_leastCommon, cX10_leastCommon, some .long, RX10) := zOK_of zh187 zr187 (fun pc h => zguard h)
def zps188 : List (Nat × Nat) := [(1, 6050), (10, 6064), (19, 6065), (24, 6068), (29, 6070), (34, 6072), (42, 6074), (50, 6075), (58, 6076), (67, 6077), (76, 6082), (84, 6086), (92, 6087), (101, 6096), (106, 6098), (111, 6099), (121, 6051), (127, 6052), (133, 6053), (139, 6054), (145, 6055), (151, 6056), (158, 6057), (165, 6058), (172, 6059), (176, 6108), (185, 6109), (194, 6110), (200, 6060)]
set_option maxRecDepth 100000 in
theorem zr188 : ∀ pc, pc < 204 → zrowB (yX11_init, cX11_init, none, RX11) zps188 pc (zxi188 pc) = true := by decide +kernel
set_option maxRecDepth 100000 in
theorem zh188 : zheadB 188 (zxi188, 1, 1, 11, 188, 13, 14561, 0, 12) (yX11_init, cX11_init, none, RX11) 1 6049 1013 6048 0 = true := by decide +kernel
theorem zm188 : zOK 188 (zxi188, 1, 1, 11, 188, 13, 14561, 0, 12) (yX11_init, cX11_init, none, RX11) := zOK_of zh188 zr188 (fun pc h => zguard h)
def zps189 : List (Nat × Nat) := [(2, 6067), (6, 6066)]
set_option maxRecDepth 100000 in
theorem zr189 : ∀ pc, pc < 10 → zrowB (yX11_status, cX11_status, some .int, RX11) zps189 pc (zxi189 pc) = true := by decide +kernel
set_option maxRecDepth 100000 in
theorem zh189 : zheadB 189 (zxi189, 1, 1, 11, 189, 0, 0, 1, 0) (yX11_status, cX11_status, some .int, RX11) 0 6215 1013 6213 6214 = true := by decide +kernel
theorem zm189 : zOK 189 (zxi189, 1, 1, 11, 189, 0, 0, 1, 0) (yX11_status, cX11_status, some .int, RX11) := zOK_of zh189 zr189 (fun pc h => zguard h)
def zps190 : List (Nat × Nat) := [(2, 6066)]
set_option maxRecDepth 100000 in
theorem zr190 : ∀ pc, pc < 7 → zrowB (yX11_refuse, cX11_refuse, some .int, RX11) zps190 pc (zxi190 pc) = true := by decide +kernel
set_option maxRecDepth 100000 in
theorem zh190 : zheadB 190 (zxi190, 2, 2, 11, 190, 0, 0, 1, 0) (yX11_refuse, cX11_refuse, some .int, RX11) 0 7224 1013 7223 173 = true := by decide +kernel
theorem zm190 : zOK 190 (zxi190, 2, 2, 11, 190, 0, 0, 1, 0) (yX11_refuse, cX11_refuse, some .int, RX11) := zOK_of zh190 zr190 (fun pc h => zguard h)
def zps191 : List (Nat × Nat) := [(2, 6067), (7, 6066)]
set_option maxRecDepth 100000 in
theorem zr191 : ∀ pc, pc < 20 → zrowB (yX11_is, cX11_is, some .boolean, RX11) zps191 pc (zxi191 pc) = true := by decide +kernel
set_option maxRecDepth 100000 in
theorem zh191 : zheadB 191 (zxi191, 2, 2, 11, 191, 0, 0, 2, 0) (yX11_is, cX11_is, some .boolean, RX11) 0 6226 1013 6225 126 = true := by decide +kernel
theorem zm191 : zOK 191 (zxi191, 2, 2, 11, 191, 0, 0, 2, 0) (yX11_is, cX11_is, some .boolean, RX11) := zOK_of zh191 zr191 (fun pc h => zguard h)
def zps192 : List (Nat × Nat) := []
set_option maxRecDepth 100000 in
theorem zr192 : ∀ pc, pc < 16 → zrowB (yX11_isIn, cX11_isIn, some .boolean, RX11) zps192 pc (zxi192 pc) = true := by decide +kernel
set_option maxRecDepth 100000 in
theorem zh192 : zheadB 192 (zxi192, 3, 3, 11, 192, 0, 0, 2, 0) (yX11_isIn, cX11_isIn, some .boolean, RX11) 2 6222 1013 6221 0 = true := by decide +kernel
theorem zm192 : zOK 192 (zxi192, 3, 3, 11, 192, 0, 0, 2, 0) (yX11_isIn, cX11_isIn, some .boolean, RX11) := zOK_of zh192 zr192 (fun pc h => zguard h)
def zps193 : List (Nat × Nat) := [(10, 6064), (23, 6064), (30, 6064), (37, 6064), (52, 6064)]
set_option maxRecDepth 100000 in
theorem zr193 : ∀ pc, pc < 68 → zrowB (yX11_clears, cX11_clears, none, RX11) zps193 pc (zxi193 pc) = true := by decide +kernel
set_option maxRecDepth 100000 in
theorem zh193 : zheadB 193 (zxi193, 3, 4, 11, 193, 0, 0, 0, 0) (yX11_clears, cX11_clears, none, RX11) 0 6063 1013 6062 125 = true := by decide +kernel
theorem zm193 : zOK 193 (zxi193, 3, 4, 11, 193, 0, 0, 0, 0) (yX11_clears, cX11_clears, none, RX11) := zOK_of zh193 zr193 (fun pc h => zguard h)
def zps194 : List (Nat × Nat) := [(2, 6064), (9, 6064)]
set_option maxRecDepth 100000 in
theorem zr194 : ∀ pc, pc < 16 → zrowB (yX11_slots, cX11_slots, some .int, RX11) zps194 pc (zxi194 pc) = true := by decide +kernel
set_option maxRecDepth 100000 in
theorem zh194 : zheadB 194 (zxi194, 1, 1, 11, 194, 0, 0, 1, 0) (yX11_slots, cX11_slots, some .int, RX11) 0 7138 1013 7137 157 = true := by decide +kernel
theorem zm194 : zOK 194 (zxi194, 1, 1, 11, 194, 0, 0, 1, 0) (yX11_slots, cX11_slots, some .int, RX11) := zOK_of zh194 zr194 (fun pc h => zguard h)
def zps195 : List (Nat × Nat) := [(1, 6064), (7, 6064)]
set_option maxRecDepth 100000 in
theorem zr195 : ∀ pc, pc < 16 → zrowB (yX11_across, cX11_across, some .int, RX11) zps195 pc (zxi195 pc) = true := by decide +kernel
set_option maxRecDepth 100000 in
theorem zh195 : zheadB 195 (zxi195, 1, 1, 11, 195, 0, 0, 1, 0) (yX11_across, cX11_across, some .int, RX11) 0 7134 1013 7133 156 = true := by decide +kernel
theorem zm195 : zOK 195 (zxi195, 1, 1, 11, 195, 0, 0, 1, 0) (yX11_across, cX11_across, some .int, RX11) := zOK_of zh195 zr195 (fun pc h => zguard h)
def zps196 : List (Nat × Nat) := [(1, 7131), (5, 6064), (13, 6064)]
set_option maxRecDepth 100000 in
theorem zr196 : ∀ pc, pc < 21 → zrowB (yX11_gates, cX11_gates, some .int, RX11) zps196 pc (zxi196 pc) = true := by decide +kernel
set_option maxRecDepth 100000 in
theorem zh196 : zheadB 196 (zxi196, 1, 1, 11, 196, 0, 0, 1, 0) (yX11_gates, cX11_gates, some .int, RX11) 0 7130 1013 7129 155 = true := by decide +kernel
theorem zm196 : zOK 196 (zxi196, 1, 1, 11, 196, 0, 0, 1, 0) (yX11_gates, cX11_gates, some .int, RX11) := zOK_of zh196 zr196 (fun pc h => zguard h)
def zps197 : List (Nat × Nat) := [(3, 7135), (8, 6220)]
set_option maxRecDepth 100000 in
theorem zr197 : ∀ pc, pc < 12 → zrowB (yX11_isSlot, cX11_isSlot, some .boolean, RX11) zps197 pc (zxi197 pc) = true := by decide +kernel
set_option maxRecDepth 100000 in
theorem zh197 : zheadB 197 (zxi197, 2, 2, 11, 197, 0, 0, 2, 0) (yX11_isSlot, cX11_isSlot, some .boolean, RX11) 0 7216 1013 7215 171 = true := by decide +kernel
theorem zm197 : zOK 197 (zxi197, 2, 2, 11, 197, 0, 0, 2, 0) (yX11_isSlot, cX11_isSlot, some .boolean, RX11) := zOK_of zh197 zr197 (fun pc h => zguard h)
def zps198 : List (Nat × Nat) := [(3, 7127), (8, 6220)]
set_option maxRecDepth 100000 in
theorem zr198 : ∀ pc, pc < 12 → zrowB (yX11_isGate, cX11_isGate, some .boolean, RX11) zps198 pc (zxi198 pc) = true := by decide +kernel
set_option maxRecDepth 100000 in
theorem zh198 : zheadB 198 (zxi198, 2, 2, 11, 198, 0, 0, 2, 0) (yX11_isGate, cX11_isGate, some .boolean, RX11) 0 7160 1013 7159 160 = true := by decide +kernel
theorem zm198 : zOK 198 (zxi198, 2, 2, 11, 198, 0, 0, 2, 0) (yX11_isGate, cX11_isGate, some .boolean, RX11) := zOK_of zh198 zr198 (fun pc h => zguard h)
def zps199 : List (Nat × Nat) := [(3, 6064), (10, 6220)]
set_option maxRecDepth 100000 in
theorem zr199 : ∀ pc, pc < 14 → zrowB (yX11_isBobbin, cX11_isBobbin, some .boolean, RX11) zps199 pc (zxi199 pc) = true := by decide +kernel
set_option maxRecDepth 100000 in
theorem zh199 : zheadB 199 (zxi199, 2, 2, 11, 199, 0, 0, 2, 0) (yX11_isBobbin, cX11_isBobbin, some .boolean, RX11) 0 7192 1013 7191 166 = true := by decide +kernel
theorem zm199 : zOK 199 (zxi199, 2, 2, 11, 199, 0, 0, 2, 0) (yX11_isBobbin, cX11_isBobbin, some .boolean, RX11) := zOK_of zh199 zr199 (fun pc h => zguard h)
def zps200 : List (Nat × Nat) := [(2, 7131), (11, 6064), (20, 6064), (28, 6064), (44, 7131)]
set_option maxRecDepth 100000 in
theorem zr200 : ∀ pc, pc < 52 → zrowB (yX11_firstOf, cX11_firstOf, some .int, RX11) zps200 pc (zxi200 pc) = true := by decide +kernel
set_option maxRecDepth 100000 in
theorem zh200 : zheadB 200 (zxi200, 2, 2, 11, 200, 0, 0, 1, 0) (yX11_firstOf, cX11_firstOf, some .int, RX11) 0 7176 1013 7175 164 = true := by decide +kernel
theorem zm200 : zOK 200 (zxi200, 2, 2, 11, 200, 0, 0, 1, 0) (yX11_firstOf, cX11_firstOf, some .int, RX11) := zOK_of zh200 zr200 (fun pc h => zguard h)
def zps201 : List (Nat × Nat) := [(2, 7131), (10, 7173), (22, 7131), (27, 6064)]
set_option maxRecDepth 100000 in
theorem zr201 : ∀ pc, pc < 35 → zrowB (yX11_secondOf, cX11_secondOf, some .int, RX11) zps201 pc (zxi201 pc) = true := by decide +kernel
set_option maxRecDepth 100000 in
theorem zh201 : zheadB 201 (zxi201, 2, 2, 11, 201, 0, 0, 1, 0) (yX11_secondOf, cX11_secondOf, some .int, RX11) 0 7180 1013 7179 165 = true := by decide +kernel
theorem zm201 : zOK 201 (zxi201, 2, 2, 11, 201, 0, 0, 1, 0) (yX11_secondOf, cX11_secondOf, some .int, RX11) := zOK_of zh201 zr201 (fun pc h => zguard h)
def zps202 : List (Nat × Nat) := [(6, 6064), (15, 6064), (61, 7131), (67, 6064), (77, 6064), (93, 6064), (107, 6064), (122, 7131), (139, 6064)]
set_option maxRecDepth 100000 in
theorem zr202 : ∀ pc, pc < 153 → zrowB (yX11_gateAt, cX11_gateAt, some .int, RX11) zps202 pc (zxi202 pc) = true := by decide +kernel
set_option maxRecDepth 100000 in
theorem zh202 : zheadB 202 (zxi202, 2, 5, 11, 202, 0, 0, 1, 0) (yX11_gateAt, cX11_gateAt, some .int, RX11) 0 7236 1013 7235 175 = true := by decide +kernel
theorem zm202 : zOK 202 (zxi202, 2, 5, 11, 202, 0, 0, 1, 0) (yX11_gateAt, cX11_gateAt, some .int, RX11) := zOK_of zh202 zr202 (fun pc h => zguard h)
def zps203 : List (Nat × Nat) := [(2, 7233), (16, 7173), (25, 7177), (33, 7173)]
set_option maxRecDepth 100000 in
theorem zr203 : ∀ pc, pc < 37 → zrowB (yX11_facing, cX11_facing, some .int, RX11) zps203 pc (zxi203 pc) = true := by decide +kernel
set_option maxRecDepth 100000 in
theorem zh203 : zheadB 203 (zxi203, 2, 3, 11, 203, 0, 0, 1, 0) (yX11_facing, cX11_facing, some .int, RX11) 0 7232 1013 7231 174 = true := by decide +kernel
theorem zm203 : zOK 203 (zxi203, 2, 3, 11, 203, 0, 0, 1, 0) (yX11_facing, cX11_facing, some .int, RX11) := zOK_of zh203 zr203 (fun pc h => zguard h)
def zps204 : List (Nat × Nat) := [(6, 6064), (14, 6064)]
set_option maxRecDepth 100000 in
theorem zr204 : ∀ pc, pc < 50 → zrowB (yX11_turned, cX11_turned, some .int, RX11) zps204 pc (zxi204 pc) = true := by decide +kernel
set_option maxRecDepth 100000 in
theorem zh204 : zheadB 204 (zxi204, 2, 4, 11, 204, 0, 0, 1, 0) (yX11_turned, cX11_turned, some .int, RX11) 0 8044 1013 8043 180 = true := by decide +kernel
theorem zm204 : zOK 204 (zxi204, 2, 4, 11, 204, 0, 0, 1, 0) (yX11_turned, cX11_turned, some .int, RX11) := zOK_of zh204 zr204 (fun pc h => zguard h)
def zps205 : List (Nat × Nat) := [(5, 6064)]
set_option maxRecDepth 100000 in
theorem zr205 : ∀ pc, pc < 37 → zrowB (yX11_xOf, cX11_xOf, some .int, RX11) zps205 pc (zxi205 pc) = true := by decide +kernel
set_option maxRecDepth 100000 in
theorem zh205 : zheadB 205 (zxi205, 2, 2, 11, 205, 0, 0, 1, 0) (yX11_xOf, cX11_xOf, some .int, RX11) 0 7196 1013 7195 167 = true := by decide +kernel
theorem zm205 : zOK 205 (zxi205, 2, 2, 11, 205, 0, 0, 1, 0) (yX11_xOf, cX11_xOf, some .int, RX11) := zOK_of zh205 zr205 (fun pc h => zguard h)
def zps206 : List (Nat × Nat) := [(5, 6064)]
set_option maxRecDepth 100000 in
theorem zr206 : ∀ pc, pc < 36 → zrowB (yX11_yOf, cX11_yOf, some .int, RX11) zps206 pc (zxi206 pc) = true := by decide +kernel
set_option maxRecDepth 100000 in
theorem zh206 : zheadB 206 (zxi206, 2, 2, 11, 206, 0, 0, 1, 0) (yX11_yOf, cX11_yOf, some .int, RX11) 0 7200 1013 7199 168 = true := by decide +kernel
theorem zm206 : zOK 206 (zxi206, 2, 2, 11, 206, 0, 0, 1, 0) (yX11_yOf, cX11_yOf, some .int, RX11) := zOK_of zh206 zr206 (fun pc h => zguard h)
def zps207 : List (Nat × Nat) := [(2, 7193), (7, 7193), (15, 7193), (20, 7193), (36, 7197), (41, 7197)]
set_option maxRecDepth 100000 in
theorem zr207 : ∀ pc, pc < 53 → zrowB (yX11_isAhead, cX11_isAhead, some .boolean, RX11) zps207 pc (zxi207 pc) = true := by decide +kernel
set_option maxRecDepth 100000 in
theorem zh207 : zheadB 207 (zxi207, 3, 3, 11, 207, 0, 0, 2, 0) (yX11_isAhead, cX11_isAhead, some .boolean, RX11) 0 7208 1013 7207 170 = true := by decide +kernel
theorem zm207 : zOK 207 (zxi207, 3, 3, 11, 207, 0, 0, 2, 0) (yX11_isAhead, cX11_isAhead, some .boolean, RX11) := zOK_of zh207 zr207 (fun pc h => zguard h)
def zps208 : List (Nat × Nat) := [(1, 6073), (8, 6064), (19, 6068), (26, 6069), (34, 6070), (41, 6071)]
set_option maxRecDepth 100000 in
theorem zr208 : ∀ pc, pc < 49 → zrowB (yX11_howStuck, cX11_howStuck, some .int, RX11) zps208 pc (zxi208 pc) = true := by decide +kernel
set_option maxRecDepth 100000 in
theorem zh208 : zheadB 208 (zxi208, 2, 2, 11, 208, 0, 0, 1, 0) (yX11_howStuck, cX11_howStuck, some .int, RX11) 0 7168 1013 7167 162 = true := by decide +kernel
theorem zm208 : zOK 208 (zxi208, 2, 2, 11, 208, 0, 0, 1, 0) (yX11_howStuck, cX11_howStuck, some .int, RX11) := zOK_of zh208 zr208 (fun pc h => zguard h)
def zps209 : List (Nat × Nat) := [(11, 6064)]
set_option maxRecDepth 100000 in
theorem zr209 : ∀ pc, pc < 29 → zrowB (yX11_freeNumber, cX11_freeNumber, some .int, RX11) zps209 pc (zxi209 pc) = true := by decide +kernel
set_option maxRecDepth 100000 in
theorem zh209 : zheadB 209 (zxi209, 2, 4, 11, 209, 0, 0, 1, 0) (yX11_freeNumber, cX11_freeNumber, some .int, RX11) 0 7172 1013 7171 163 = true := by decide +kernel
theorem zm209 : zOK 209 (zxi209, 2, 4, 11, 209, 0, 0, 1, 0) (yX11_freeNumber, cX11_freeNumber, some .int, RX11) := zOK_of zh209 zr209 (fun pc h => zguard h)
def zps210 : List (Nat × Nat) := [(2, 7165), (22, 6072), (29, 6064), (42, 6072), (47, 7169), (64, 6064), (74, 6064)]
set_option maxRecDepth 100000 in
theorem zr210 : ∀ pc, pc < 96 → zrowB (yX11_isOpen, cX11_isOpen, some .boolean, RX11) zps210 pc (zxi210 pc) = true := by decide +kernel
set_option maxRecDepth 100000 in
theorem zh210 : zheadB 210 (zxi210, 3, 4, 11, 210, 0, 0, 2, 0) (yX11_isOpen, cX11_isOpen, some .boolean, RX11) 0 7164 1013 7163 161 = true := by decide +kernel
theorem zm210 : zOK 210 (zxi210, 3, 4, 11, 210, 0, 0, 2, 0) (yX11_isOpen, cX11_isOpen, some .boolean, RX11) := zOK_of zh210 zr210 (fun pc h => zguard h)
def zps211 : List (Nat × Nat) := [(2, 7233), (13, 7161), (21, 7229)]
set_option maxRecDepth 100000 in
theorem zr211 : ∀ pc, pc < 29 → zrowB (yX11_over, cX11_over, some .int, RX11) zps211 pc (zxi211 pc) = true := by decide +kernel
set_option maxRecDepth 100000 in
theorem zh211 : zheadB 211 (zxi211, 3, 4, 11, 211, 0, 0, 1, 0) (yX11_over, cX11_over, some .int, RX11) 0 8052 1013 8051 182 = true := by decide +kernel
theorem zm211 : zOK 211 (zxi211, 3, 4, 11, 211, 0, 0, 1, 0) (yX11_over, cX11_over, some .int, RX11) := zOK_of zh211 zr211 (fun pc h => zguard h)
def zps212 : List (Nat × Nat) := [(3, 8041), (7, 8049)]
set_option maxRecDepth 100000 in
theorem zr212 : ∀ pc, pc < 11 → zrowB (yX11_mapped, cX11_mapped, some .int, RX11) zps212 pc (zxi212 pc) = true := by decide +kernel
set_option maxRecDepth 100000 in
theorem zh212 : zheadB 212 (zxi212, 3, 3, 11, 212, 0, 0, 1, 0) (yX11_mapped, cX11_mapped, some .int, RX11) 0 8085 1013 8084 187 = true := by decide +kernel
theorem zm212 : zOK 212 (zxi212, 3, 3, 11, 212, 0, 0, 1, 0) (yX11_mapped, cX11_mapped, some .int, RX11) := zOK_of zh212 zr212 (fun pc h => zguard h)
def zps213 : List (Nat × Nat) := [(12, 7150)]
set_option maxRecDepth 100000 in
theorem zr213 : ∀ pc, pc < 16 → zrowB (yX11_common, cX11_common, some .int, RX11) zps213 pc (zxi213 pc) = true := by decide +kernel
set_option maxRecDepth 100000 in
theorem zh213 : zheadB 213 (zxi213, 2, 2, 11, 213, 0, 0, 1, 0) (yX11_common, cX11_common, some .int, RX11) 2 7152 1013 7151 0 = true := by decide +kernel
theorem zm213 : zOK 213 (zxi213, 2, 2, 11, 213, 0, 0, 1, 0) (yX11_common, cX11_common, some .int, RX11) := zOK_of zh213 zr213 (fun pc h => zguard h)
def zps214 : List (Nat × Nat) := [(3, 7150)]
set_option maxRecDepth 100000 in
theorem zr214 : ∀ pc, pc < 10 → zrowB (yX11_multiple, cX11_multiple, some .int, RX11) zps214 pc (zxi214 pc) = true := by decide +kernel
set_option maxRecDepth 100000 in
theorem zh214 : zheadB 214 (zxi214, 2, 2, 11, 214, 0, 0, 1, 0) (yX11_multiple, cX11_multiple, some .int, RX11) 2 7149 1013 7148 0 = true := by decide +kernel
theorem zm214 : zOK 214 (zxi214, 2, 2, 11, 214, 0, 0, 1, 0) (yX11_multiple, cX11_multiple, some .int, RX11) := zOK_of zh214 zr214 (fun pc h => zguard h)
def zps215 : List (Nat × Nat) := [(6, 7127), (14, 6064), (22, 7147)]
set_option maxRecDepth 100000 in
theorem zr215 : ∀ pc, pc < 34 → zrowB (yX11_period, cX11_period, some .int, RX11) zps215 pc (zxi215 pc) = true := by decide +kernel
set_option maxRecDepth 100000 in
theorem zh215 : zheadB 215 (zxi215, 1, 3, 11, 215, 0, 0, 1, 0) (yX11_period, cX11_period, some .int, RX11) 0 7146 1013 7145 159 = true := by decide +kernel
theorem zm215 : zOK 215 (zxi215, 1, 3, 11, 215, 0, 0, 1, 0) (yX11_period, cX11_period, some .int, RX11) := zOK_of zh215 zr215 (fun pc h => zguard h)
def zps216 : List (Nat × Nat) := [(8, 7143), (20, 8082)]
set_option maxRecDepth 100000 in
theorem zr216 : ∀ pc, pc < 32 → zrowB (yX11_rounded, cX11_rounded, some .int, RX11) zps216 pc (zxi216 pc) = true := by decide +kernel
set_option maxRecDepth 100000 in
theorem zh216 : zheadB 216 (zxi216, 3, 5, 11, 216, 0, 0, 1, 0) (yX11_rounded, cX11_rounded, some .int, RX11) 0 8097 1013 8096 188 = true := by decide +kernel
theorem zm216 : zOK 216 (zxi216, 3, 5, 11, 216, 0, 0, 1, 0) (yX11_rounded, cX11_rounded, some .int, RX11) := zOK_of zh216 zr216 (fun pc h => zguard h)
def zps217 : List (Nat × Nat) := [(5, 8094), (23, 8094)]
set_option maxRecDepth 100000 in
theorem zr217 : ∀ pc, pc < 33 → zrowB (yX11_lengthOf, cX11_lengthOf, some .int, RX11) zps217 pc (zxi217 pc) = true := by decide +kernel
set_option maxRecDepth 100000 in
theorem zh217 : zheadB 217 (zxi217, 3, 5, 11, 217, 0, 0, 1, 0) (yX11_lengthOf, cX11_lengthOf, some .int, RX11) 0 8105 1013 8104 189 = true := by decide +kernel
theorem zm217 : zOK 217 (zxi217, 3, 5, 11, 217, 0, 0, 1, 0) (yX11_lengthOf, cX11_lengthOf, some .int, RX11) := zOK_of zh217 zr217 (fun pc h => zguard h)
def zps218 : List (Nat × Nat) := [(6, 6064), (20, 6064), (30, 6075), (35, 7229), (39, 6075), (52, 6075), (57, 7233), (80, 6080), (85, 6081)]
set_option maxRecDepth 100000 in
theorem zr218 : ∀ pc, pc < 102 → zrowB (yX11_meeting, cX11_meeting, some .int, RX11) zps218 pc (zxi218 pc) = true := by decide +kernel
set_option maxRecDepth 100000 in
theorem zh218 : zheadB 218 (zxi218, 1, 5, 11, 218, 0, 0, 1, 0) (yX11_meeting, cX11_meeting, some .int, RX11) 0 8048 1013 8047 181 = true := by decide +kernel
theorem zm218 : zOK 218 (zxi218, 1, 5, 11, 218, 0, 0, 1, 0) (yX11_meeting, cX11_meeting, some .int, RX11) := zOK_of zh218 zr218 (fun pc h => zguard h)
def zps219 : List (Nat × Nat) := [(4, 6064), (13, 6075), (19, 6074), (24, 8041), (36, 8045), (39, 6079), (43, 6079), (55, 6064), (64, 6075), (70, 6075), (76, 8049)]
set_option maxRecDepth 100000 in
theorem zr219 : ∀ pc, pc < 88 → zrowB (yX11_tries, cX11_tries, some .boolean, RX11) zps219 pc (zxi219 pc) = true := by decide +kernel
set_option maxRecDepth 100000 in
theorem zh219 : zheadB 219 (zxi219, 2, 3, 11, 219, 0, 0, 2, 0) (yX11_tries, cX11_tries, some .boolean, RX11) 0 8040 1013 8039 179 = true := by decide +kernel
theorem zm219 : zOK 219 (zxi219, 2, 3, 11, 219, 0, 0, 2, 0) (yX11_tries, cX11_tries, some .boolean, RX11) := zOK_of zh219 zr219 (fun pc h => zguard h)
def zps220 : List (Nat × Nat) := [(2, 6074), (7, 7197), (12, 6075), (17, 7197), (24, 6074), (29, 7197), (34, 6075), (39, 7197)]
set_option maxRecDepth 100000 in
theorem zr220 : ∀ pc, pc < 76 → zrowB (yX11_isInFront, cX11_isInFront, some .boolean, RX11) zps220 pc (zxi220 pc) = true := by decide +kernel
set_option maxRecDepth 100000 in
theorem zh220 : zheadB 220 (zxi220, 3, 5, 11, 220, 0, 0, 2, 0) (yX11_isInFront, cX11_isInFront, some .boolean, RX11) 0 8064 1013 8063 185 = true := by decide +kernel
theorem zm220 : zOK 220 (zxi220, 3, 5, 11, 220, 0, 0, 2, 0) (yX11_isInFront, cX11_isInFront, some .boolean, RX11) := zOK_of zh220 zr220 (fun pc h => zguard h)
def zps221 : List (Nat × Nat) := [(4, 6064), (20, 6074), (26, 6074), (30, 6076), (38, 7205), (45, 6076), (50, 6076), (65, 6076)]
set_option maxRecDepth 100000 in
theorem zr221 : ∀ pc, pc < 78 → zrowB (yX11_stands, cX11_stands, none, RX11) zps221 pc (zxi221 pc) = true := by decide +kernel
set_option maxRecDepth 100000 in
theorem zh221 : zheadB 221 (zxi221, 1, 3, 11, 221, 0, 0, 0, 0) (yX11_stands, cX11_stands, none, RX11) 0 8060 1013 8059 184 = true := by decide +kernel
theorem zm221 : zOK 221 (zxi221, 1, 3, 11, 221, 0, 0, 0, 0) (yX11_stands, cX11_stands, none, RX11) := zOK_of zh221 zr221 (fun pc h => zguard h)
def zps222 : List (Nat × Nat) := [(1, 6078), (11, 6077), (15, 6078), (22, 6078), (27, 6078)]
set_option maxRecDepth 100000 in
theorem zr222 : ∀ pc, pc < 31 → zrowB (yX11_spells, cX11_spells, none, RX11) zps222 pc (zxi222 pc) = true := by decide +kernel
set_option maxRecDepth 100000 in
theorem zh222 : zheadB 222 (zxi222, 2, 2, 11, 222, 0, 0, 0, 0) (yX11_spells, cX11_spells, none, RX11) 0 8068 1013 8067 186 = true := by decide +kernel
theorem zm222 : zOK 222 (zxi222, 2, 2, 11, 222, 0, 0, 0, 0) (yX11_spells, cX11_spells, none, RX11) := zOK_of zh222 zr222 (fun pc h => zguard h)
def zps223 : List (Nat × Nat) := [(1, 8057), (10, 6064), (19, 6076), (26, 6076), (36, 6075), (42, 6075), (47, 7205), (63, 8061), (80, 8065), (84, 6076), (91, 6076)]
set_option maxRecDepth 100000 in
theorem zr223 : ∀ pc, pc < 105 → zrowB (yX11_spellsStep, cX11_spellsStep, none, RX11) zps223 pc (zxi223 pc) = true := by decide +kernel
set_option maxRecDepth 100000 in
theorem zh223 : zheadB 223 (zxi223, 1, 4, 11, 223, 0, 0, 0, 0) (yX11_spellsStep, cX11_spellsStep, none, RX11) 0 8056 1013 8055 183 = true := by decide +kernel
theorem zm223 : zOK 223 (zxi223, 1, 4, 11, 223, 0, 0, 0, 0) (yX11_spellsStep, cX11_spellsStep, none, RX11) := zOK_of zh223 zr223 (fun pc h => zguard h)
def zps224 : List (Nat × Nat) := [(4, 6064), (13, 6074), (18, 6075)]
set_option maxRecDepth 100000 in
theorem zr224 : ∀ pc, pc < 31 → zrowB (yX11_goes, cX11_goes, none, RX11) zps224 pc (zxi224 pc) = true := by decide +kernel
set_option maxRecDepth 100000 in
theorem zh224 : zheadB 224 (zxi224, 1, 2, 11, 224, 0, 0, 0, 0) (yX11_goes, cX11_goes, none, RX11) 0 8164 1013 8163 196 = true := by decide +kernel
theorem zm224 : zOK 224 (zxi224, 1, 2, 11, 224, 0, 0, 0, 0) (yX11_goes, cX11_goes, none, RX11) := zOK_of zh224 zr224 (fun pc h => zguard h)
def zps225 : List (Nat × Nat) := [(4, 6064), (13, 6074), (18, 6064), (36, 6078)]
set_option maxRecDepth 100000 in
theorem zr225 : ∀ pc, pc < 40 → zrowB (yX11_begins, cX11_begins, none, RX11) zps225 pc (zxi225 pc) = true := by decide +kernel
set_option maxRecDepth 100000 in
theorem zh225 : zheadB 225 (zxi225, 1, 2, 11, 225, 0, 0, 0, 0) (yX11_begins, cX11_begins, none, RX11) 0 8160 1013 8159 195 = true := by decide +kernel
theorem zm225 : zOK 225 (zxi225, 1, 2, 11, 225, 0, 0, 0, 0) (yX11_begins, cX11_begins, none, RX11) := zOK_of zh225 zr225 (fun pc h => zguard h)
def zps226 : List (Nat × Nat) := [(1, 6082)]
set_option maxRecDepth 100000 in
theorem zr226 : ∀ pc, pc < 12 → zrowB (yX11_goesTo, cX11_goesTo, some .int, RX11) zps226 pc (zxi226 pc) = true := by decide +kernel
set_option maxRecDepth 100000 in
theorem zh226 : zheadB 226 (zxi226, 3, 3, 11, 226, 0, 0, 1, 0) (yX11_goesTo, cX11_goesTo, some .int, RX11) 0 7026 1013 7025 136 = true := by decide +kernel
theorem zm226 : zOK 226 (zxi226, 3, 3, 11, 226, 0, 0, 1, 0) (yX11_goesTo, cX11_goesTo, some .int, RX11) := zOK_of zh226 zr226 (fun pc h => zguard h)
def zps227 : List (Nat × Nat) := [(1, 6082)]
set_option maxRecDepth 100000 in
theorem zr227 : ∀ pc, pc < 13 → zrowB (yX11_lays, cX11_lays, none, RX11) zps227 pc (zxi227 pc) = true := by decide +kernel
set_option maxRecDepth 100000 in
theorem zh227 : zheadB 227 (zxi227, 4, 4, 11, 227, 0, 0, 0, 0) (yX11_lays, cX11_lays, none, RX11) 0 7030 1013 7029 137 = true := by decide +kernel
theorem zm227 : zOK 227 (zxi227, 4, 4, 11, 227, 0, 0, 0, 0) (yX11_lays, cX11_lays, none, RX11) := zOK_of zh227 zr227 (fun pc h => zguard h)
def zps228 : List (Nat × Nat) := [(3, 7023), (11, 7023)]
set_option maxRecDepth 100000 in
theorem zr228 : ∀ pc, pc < 23 → zrowB (yX11_isBegun, cX11_isBegun, some .boolean, RX11) zps228 pc (zxi228 pc) = true := by decide +kernel
set_option maxRecDepth 100000 in
theorem zh228 : zheadB 228 (zxi228, 3, 3, 11, 228, 0, 0, 2, 0) (yX11_isBegun, cX11_isBegun, some .boolean, RX11) 0 7046 1013 7045 141 = true := by decide +kernel
theorem zm228 : zOK 228 (zxi228, 3, 3, 11, 228, 0, 0, 2, 0) (yX11_isBegun, cX11_isBegun, some .boolean, RX11) := zOK_of zh228 zr228 (fun pc h => zguard h)
def zps229 : List (Nat × Nat) := [(5, 7023)]
set_option maxRecDepth 100000 in
theorem zr229 : ∀ pc, pc < 20 → zrowB (yX11_comesFrom, cX11_comesFrom, some .int, RX11) zps229 pc (zxi229 pc) = true := by decide +kernel
set_option maxRecDepth 100000 in
theorem zh229 : zheadB 229 (zxi229, 3, 4, 11, 229, 0, 0, 1, 0) (yX11_comesFrom, cX11_comesFrom, some .int, RX11) 0 7034 1013 7033 138 = true := by decide +kernel
theorem zm229 : zOK 229 (zxi229, 3, 4, 11, 229, 0, 0, 1, 0) (yX11_comesFrom, cX11_comesFrom, some .int, RX11) := zOK_of zh229 zr229 (fun pc h => zguard h)
def zps230 : List (Nat × Nat) := [(3, 7031), (11, 7031)]
set_option maxRecDepth 100000 in
theorem zr230 : ∀ pc, pc < 23 → zrowB (yX11_isEnded, cX11_isEnded, some .boolean, RX11) zps230 pc (zxi230 pc) = true := by decide +kernel
set_option maxRecDepth 100000 in
theorem zh230 : zheadB 230 (zxi230, 3, 3, 11, 230, 0, 0, 2, 0) (yX11_isEnded, cX11_isEnded, some .boolean, RX11) 0 7050 1013 7049 142 = true := by decide +kernel
theorem zm230 : zOK 230 (zxi230, 3, 3, 11, 230, 0, 0, 2, 0) (yX11_isEnded, cX11_isEnded, some .boolean, RX11) := zOK_of zh230 zr230 (fun pc h => zguard h)
def zps231 : List (Nat × Nat) := [(4, 6085), (13, 7023)]
set_option maxRecDepth 100000 in
theorem zr231 : ∀ pc, pc < 30 → zrowB (yX11_isNothing, cX11_isNothing, some .boolean, RX11) zps231 pc (zxi231 pc) = true := by decide +kernel
set_option maxRecDepth 100000 in
theorem zh231 : zheadB 231 (zxi231, 2, 3, 11, 231, 0, 0, 2, 0) (yX11_isNothing, cX11_isNothing, some .boolean, RX11) 0 7054 1013 7053 143 = true := by decide +kernel
theorem zm231 : zOK 231 (zxi231, 2, 3, 11, 231, 0, 0, 2, 0) (yX11_isNothing, cX11_isNothing, some .boolean, RX11) := zOK_of zh231 zr231 (fun pc h => zguard h)
def zps232 : List (Nat × Nat) := [(4, 6085), (13, 7023), (17, 6085)]
set_option maxRecDepth 100000 in
theorem zr232 : ∀ pc, pc < 37 → zrowB (yX11_isHalfTurn, cX11_isHalfTurn, some .boolean, RX11) zps232 pc (zxi232 pc) = true := by decide +kernel
set_option maxRecDepth 100000 in
theorem zh232 : zheadB 232 (zxi232, 2, 3, 11, 232, 0, 0, 2, 0) (yX11_isHalfTurn, cX11_isHalfTurn, some .boolean, RX11) 0 7058 1013 7057 144 = true := by decide +kernel
theorem zm232 : zOK 232 (zxi232, 2, 3, 11, 232, 0, 0, 2, 0) (yX11_isHalfTurn, cX11_isHalfTurn, some .boolean, RX11) := zOK_of zh232 zr232 (fun pc h => zguard h)
def zps233 : List (Nat × Nat) := [(14, 6085), (24, 7043), (34, 7047), (50, 7031), (61, 7031), (74, 7027), (83, 7027), (90, 7023), (105, 7023), (108, 7027), (119, 7027)]
set_option maxRecDepth 100000 in
theorem zr233 : ∀ pc, pc < 132 → zrowB (yX11_shares, cX11_shares, some .boolean, RX11) zps233 pc (zxi233 pc) = true := by decide +kernel
set_option maxRecDepth 100000 in
theorem zh233 : zheadB 233 (zxi233, 2, 8, 11, 233, 0, 0, 2, 0) (yX11_shares, cX11_shares, some .boolean, RX11) 0 7042 1013 7041 140 = true := by decide +kernel
theorem zm233 : zOK 233 (zxi233, 2, 8, 11, 233, 0, 0, 2, 0) (yX11_shares, cX11_shares, some .boolean, RX11) := zOK_of zh233 zr233 (fun pc h => zguard h)
