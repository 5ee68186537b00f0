def zps180 : List (Nat × Nat) := [(1, 2193), (5, 2185), (8, 1148), (11, 5060), (15, 2194), (19, 2185), (22, 1148), (25, 5060), (29, 2193), (33, 2189), (36, 2030), (40, 5064), (44, 2194), (48, 2189), (51, 2030), (54, 5131), (58, 2193), (62, 2194), (65, 5111)]
set_option maxRecDepth 100000 in
theorem zr180 : zrowsB (yX10_isBackwards, cX10_isBackwards, some .boolean, RX10) zps180 zxi180 69 = true := by decide +kernel
set_option maxRecDepth 100000 in
theorem zhc180 : zheadC 180 (zxi180, 1, 1, 10, 180, 0, 0, 2, 0) (yX10_isBackwards, cX10_isBackwards, some .boolean, RX10) 0 1001 5129 100 = true := by decide +kernel
set_option maxRecDepth 100000 in
theorem zh180 : zheadB 180 (zxi180, 1, 1, 10, 180, 0, 0, 2, 0) (yX10_isBackwards, cX10_isBackwards, some .boolean, RX10) 0 5130 1001 5129 100 = true := zheadB_of rfl zhc180
theorem zm180 : zOK 180 (zxi180, 1, 1, 10, 180, 0, 0, 2, 0) (yX10_isBackwards, cX10_isBackwards, some .boolean, RX10) := zOK_of2 (len := 69) zh180 zr180 (fun pc h => zguard h)
def zps181 : List (Nat × Nat) := [(1, 2185), (4, 1164), (8, 2185), (11, 1148), (14, 5119), (23, 2193), (27, 2185), (30, 1148), (33, 5060), (37, 2193), (41, 2189), (44, 2030), (48, 5064), (52, 2193), (56, 2185), (59, 1164), (63, 5064), (67, 2194), (71, 2185), (74, 1148), (77, 5060), (81, 2194), (85, 2185), (88, 1164), (92, 5064), (96, 2194), (100, 2189), (103, 2030), (107, 5064), (111, 2193), (115, 2194), (118, 5111)]
set_option maxRecDepth 100000 in
theorem zr181 : zrowsB (yX10_isEitherWayRound, cX10_isEitherWayRound, some .boolean, RX10) zps181 zxi181 122 = true := by decide +kernel
set_option maxRecDepth 100000 in
theorem zhc181 : zheadC 181 (zxi181, 1, 1, 10, 181, 0, 0, 2, 0) (yX10_isEitherWayRound, cX10_isEitherWayRound, some .boolean, RX10) 0 1001 5137 102 = true := by decide +kernel
set_option maxRecDepth 100000 in
theorem zh181 : zheadB 181 (zxi181, 1, 1, 10, 181, 0, 0, 2, 0) (yX10_isEitherWayRound, cX10_isEitherWayRound, some .boolean, RX10) 0 5138 1001 5137 102 = true := zheadB_of rfl zhc181
theorem zm181 : zOK 181 (zxi181, 1, 1, 10, 181, 0, 0, 2, 0) (yX10_isEitherWayRound, cX10_isEitherWayRound, some .boolean, RX10) := zOK_of2 (len := 122) zh181 zr181 (fun pc h => zguard h)
def zps182 : List (Nat × Nat) := [(1, 2185), (5, 2191), (8, 4022), (12, 2194), (16, 2185), (19, 1148), (22, 5060), (26, 2185), (29, 1160), (36, 2185), (39, 1164), (43, 2185), (46, 1148), (49, 5119), (56, 2194), (60, 2185), (63, 1164), (67, 5064)]
set_option maxRecDepth 100000 in
theorem zr182 : zrowsB (yX10_prepareSearch, cX10_prepareSearch, none, RX10) zps182 zxi182 71 = true := by decide +kernel
set_option maxRecDepth 100000 in
theorem zhc182 : zheadC 182 (zxi182, 1, 1, 10, 182, 0, 0, 0, 0) (yX10_prepareSearch, cX10_prepareSearch, none, RX10) 0 1001 5182 108 = true := by decide +kernel
set_option maxRecDepth 100000 in
theorem zh182 : zheadB 182 (zxi182, 1, 1, 10, 182, 0, 0, 0, 0) (yX10_prepareSearch, cX10_prepareSearch, none, RX10) 0 5183 1001 5182 108 = true := zheadB_of rfl zhc182
theorem zm182 : zOK 182 (zxi182, 1, 1, 10, 182, 0, 0, 0, 0) (yX10_prepareSearch, cX10_prepareSearch, none, RX10) := zOK_of2 (len := 71) zh182 zr182 (fun pc h => zguard h)
def zps183 : List (Nat × Nat) := [(1, 2190), (5, 2185), (8, 2172), (12, 2190), (16, 2185), (19, 1127), (23, 2191), (28, 2185), (32, 5188), (36, 2185), (40, 5196), (43, 5200), (52, 5206), (62, 2190), (65, 2030), (68, 1115), (80, 2185), (83, 1160), (90, 5210)]
set_option maxRecDepth 100000 in
theorem zr183 : zrowsB (yX10_whyRefused, cX10_whyRefused, some .int, RX10) zps183 zxi183 102 = true := by decide +kernel
set_option maxRecDepth 100000 in
theorem zhc183 : zheadC 183 (zxi183, 3, 3, 10, 183, 0, 0, 1, 0) (yX10_whyRefused, cX10_whyRefused, some .int, RX10) 0 1001 5186 109 = true := by decide +kernel
set_option maxRecDepth 100000 in
theorem zh183 : zheadB 183 (zxi183, 3, 3, 10, 183, 0, 0, 1, 0) (yX10_whyRefused, cX10_whyRefused, some .int, RX10) 0 5187 1001 5186 109 = true := zheadB_of rfl zhc183
theorem zm183 : zOK 183 (zxi183, 3, 3, 10, 183, 0, 0, 1, 0) (yX10_whyRefused, cX10_whyRefused, some .int, RX10) := zOK_of2 (len := 102) zh183 zr183 (fun pc h => zguard h)
def zps184 : List (Nat × Nat) := [(4, 2185), (7, 1148), (14, 2185), (17, 1156), (27, 2185), (30, 1156), (36, 2190), (39, 2022)]
set_option maxRecDepth 100000 in
theorem zr184 : zrowsB (yX10_firstMisplaced, cX10_firstMisplaced, some .int, RX10) zps184 zxi184 57 = true := by decide +kernel
set_option maxRecDepth 100000 in
theorem zhc184 : zheadC 184 (zxi184, 1, 2, 10, 184, 0, 0, 1, 0) (yX10_firstMisplaced, cX10_firstMisplaced, some .int, RX10) 0 1001 5208 114 = true := by decide +kernel
set_option maxRecDepth 100000 in
theorem zh184 : zheadB 184 (zxi184, 1, 2, 10, 184, 0, 0, 1, 0) (yX10_firstMisplaced, cX10_firstMisplaced, some .int, RX10) 0 5209 1001 5208 114 = true := zheadB_of rfl zhc184
theorem zm184 : zOK 184 (zxi184, 1, 2, 10, 184, 0, 0, 1, 0) (yX10_firstMisplaced, cX10_firstMisplaced, some .int, RX10) := zOK_of2 (len := 57) zh184 zr184 (fun pc h => zguard h)
def zps185 : List (Nat × Nat) := [(1, 2185), (4, 1164), (8, 2185), (11, 1148), (14, 5119), (23, 2190), (26, 2030), (29, 5039), (33, 2185), (36, 1164), (39, 5039), (48, 2193), (52, 2185), (55, 1148), (58, 5060), (62, 2193), (66, 2190), (69, 2030), (73, 5064), (77, 2193), (81, 2194), (84, 5111)]
set_option maxRecDepth 100000 in
theorem zr185 : zrowsB (yX10_trialMatchesWished, cX10_trialMatchesWished, some .boolean, RX10) zps185 zxi185 88 = true := by decide +kernel
set_option maxRecDepth 100000 in
theorem zhc185 : zheadC 185 (zxi185, 1, 1, 10, 185, 0, 0, 2, 0) (yX10_trialMatchesWished, cX10_trialMatchesWished, some .boolean, RX10) 0 1001 5212 115 = true := by decide +kernel
set_option maxRecDepth 100000 in
theorem zh185 : zheadB 185 (zxi185, 1, 1, 10, 185, 0, 0, 2, 0) (yX10_trialMatchesWished, cX10_trialMatchesWished, some .boolean, RX10) 0 5213 1001 5212 115 = true := zheadB_of rfl zhc185
theorem zm185 : zOK 185 (zxi185, 1, 1, 10, 185, 0, 0, 2, 0) (yX10_trialMatchesWished, cX10_trialMatchesWished, some .boolean, RX10) := zOK_of2 (len := 88) zh185 zr185 (fun pc h => zguard h)
def zps186 : List (Nat × Nat) := [(3, 4034)]
set_option maxRecDepth 100000 in
theorem zr186 : zrowsB (yX10_phase, cX10_phase, some .int, RX10) zps186 zxi186 7 = true := by decide +kernel
set_option maxRecDepth 100000 in
theorem zhc186 : zheadC 186 (zxi186, 1, 1, 10, 186, 0, 0, 1, 0) (yX10_phase, cX10_phase, some .int, RX10) 2 1001 4032 0 = true := by decide +kernel
set_option maxRecDepth 100000 in
theorem zh186 : zheadB 186 (zxi186, 1, 1, 10, 186, 0, 0, 1, 0) (yX10_phase, cX10_phase, some .int, RX10) 2 4033 1001 4032 0 = true := zheadB_of rfl zhc186
theorem zm186 : zOK 186 (zxi186, 1, 1, 10, 186, 0, 0, 1, 0) (yX10_phase, cX10_phase, some .int, RX10) := zOK_of2 (len := 7) zh186 zr186 (fun pc h => zguard h)
def zps187 : List (Nat × Nat) := []
set_option maxRecDepth 100000 in
theorem zr187 : zrowsB (yX10_leastCommon, cX10_leastCommon, some .long, RX10) zps187 zxi187 62 = true := by decide +kernel
set_option maxRecDepth 100000 in
theorem zhc187 : zheadC 187 (zxi187, 2, 11, 10, 187, 0, 0, 3, 0) (yX10_leastCommon, cX10_leastCommon, some .long, RX10) 2 1001 3171 0 = true := by decide +kernel
set_option maxRecDepth 100000 in
theorem zh187 : zheadB 187 (zxi187, 2, 11, 10, 187, 0, 0, 3, 0) (yX10_leastCommon, cX10_leastCommon, some .long, RX10) 2 3172 1001 3171 0 = true := zheadB_of rfl zhc187
theorem zm187 : zOK 187 (zxi187, 2, 11, 10, 187, 0, 0, 3, 0) (yX10_leastCommon, cX10_leastCommon, some .long, RX10) := zOK_of2 (len := 62) zh187 zr187 (fun pc h => zguard h)
def zps188 : List (Nat × Nat) := [(1, 6050), (10, 6064), (19, 6065), (24, 6068), (29, 6070), (34, 6072), (42, 6074), (50, 6075), (58, 6076), (67, 6077), (76, 6082), (84, 6086), (92, 6087), (101, 6096), (106, 6098), (111, 6099), (121, 6051), (127, 6052), (133, 6053), (139, 6054), (145, 6055), (151, 6056), (158, 6057), (165, 6058), (172, 6059), (176, 6108), (185, 6109), (194, 6110), (200, 6060)]
set_option maxRecDepth 100000 in
theorem zr188 : zrowsB (yX11_init, cX11_init, none, RX11) zps188 zxi188 204 = true := by decide +kernel
set_option maxRecDepth 100000 in
theorem zhc188 : zheadC 188 (zxi188, 1, 1, 11, 188, 13, 14561, 0, 12) (yX11_init, cX11_init, none, RX11) 1 1013 6048 0 = true := by decide +kernel
set_option maxRecDepth 100000 in
theorem zh188 : zheadB 188 (zxi188, 1, 1, 11, 188, 13, 14561, 0, 12) (yX11_init, cX11_init, none, RX11) 1 6049 1013 6048 0 = true := zheadB_of rfl zhc188
theorem zm188 : zOK 188 (zxi188, 1, 1, 11, 188, 13, 14561, 0, 12) (yX11_init, cX11_init, none, RX11) := zOK_of2 (len := 204) zh188 zr188 (fun pc h => zguard h)
def zps189 : List (Nat × Nat) := [(2, 6067), (6, 6066)]
set_option maxRecDepth 100000 in
theorem zr189 : zrowsB (yX11_status, cX11_status, some .int, RX11) zps189 zxi189 10 = true := by decide +kernel
set_option maxRecDepth 100000 in
theorem zhc189 : zheadC 189 (zxi189, 1, 1, 11, 189, 0, 0, 1, 0) (yX11_status, cX11_status, some .int, RX11) 0 1013 6213 6214 = true := by decide +kernel
set_option maxRecDepth 100000 in
theorem zh189 : zheadB 189 (zxi189, 1, 1, 11, 189, 0, 0, 1, 0) (yX11_status, cX11_status, some .int, RX11) 0 6215 1013 6213 6214 = true := zheadB_of rfl zhc189
theorem zm189 : zOK 189 (zxi189, 1, 1, 11, 189, 0, 0, 1, 0) (yX11_status, cX11_status, some .int, RX11) := zOK_of2 (len := 10) zh189 zr189 (fun pc h => zguard h)
def zps190 : List (Nat × Nat) := [(2, 6066)]
set_option maxRecDepth 100000 in
theorem zr190 : zrowsB (yX11_refuse, cX11_refuse, some .int, RX11) zps190 zxi190 7 = true := by decide +kernel
set_option maxRecDepth 100000 in
theorem zhc190 : zheadC 190 (zxi190, 2, 2, 11, 190, 0, 0, 1, 0) (yX11_refuse, cX11_refuse, some .int, RX11) 0 1013 7223 173 = true := by decide +kernel
set_option maxRecDepth 100000 in
theorem zh190 : zheadB 190 (zxi190, 2, 2, 11, 190, 0, 0, 1, 0) (yX11_refuse, cX11_refuse, some .int, RX11) 0 7224 1013 7223 173 = true := zheadB_of rfl zhc190
theorem zm190 : zOK 190 (zxi190, 2, 2, 11, 190, 0, 0, 1, 0) (yX11_refuse, cX11_refuse, some .int, RX11) := zOK_of2 (len := 7) zh190 zr190 (fun pc h => zguard h)
def zps191 : List (Nat × Nat) := [(2, 6067), (7, 6066)]
set_option maxRecDepth 100000 in
theorem zr191 : zrowsB (yX11_is, cX11_is, some .boolean, RX11) zps191 zxi191 20 = true := by decide +kernel
set_option maxRecDepth 100000 in
theorem zhc191 : zheadC 191 (zxi191, 2, 2, 11, 191, 0, 0, 2, 0) (yX11_is, cX11_is, some .boolean, RX11) 0 1013 6225 126 = true := by decide +kernel
set_option maxRecDepth 100000 in
theorem zh191 : zheadB 191 (zxi191, 2, 2, 11, 191, 0, 0, 2, 0) (yX11_is, cX11_is, some .boolean, RX11) 0 6226 1013 6225 126 = true := zheadB_of rfl zhc191
theorem zm191 : zOK 191 (zxi191, 2, 2, 11, 191, 0, 0, 2, 0) (yX11_is, cX11_is, some .boolean, RX11) := zOK_of2 (len := 20) zh191 zr191 (fun pc h => zguard h)
def zps192 : List (Nat × Nat) := []
set_option maxRecDepth 100000 in
theorem zr192 : zrowsB (yX11_isIn, cX11_isIn, some .boolean, RX11) zps192 zxi192 16 = true := by decide +kernel
set_option maxRecDepth 100000 in
theorem zhc192 : zheadC 192 (zxi192, 3, 3, 11, 192, 0, 0, 2, 0) (yX11_isIn, cX11_isIn, some .boolean, RX11) 2 1013 6221 0 = true := by decide +kernel
set_option maxRecDepth 100000 in
theorem zh192 : zheadB 192 (zxi192, 3, 3, 11, 192, 0, 0, 2, 0) (yX11_isIn, cX11_isIn, some .boolean, RX11) 2 6222 1013 6221 0 = true := zheadB_of rfl zhc192
theorem zm192 : zOK 192 (zxi192, 3, 3, 11, 192, 0, 0, 2, 0) (yX11_isIn, cX11_isIn, some .boolean, RX11) := zOK_of2 (len := 16) zh192 zr192 (fun pc h => zguard h)
def zps193 : List (Nat × Nat) := [(10, 6064), (23, 6064), (30, 6064), (37, 6064), (52, 6064)]
set_option maxRecDepth 100000 in
theorem zr193 : zrowsB (yX11_clears, cX11_clears, none, RX11) zps193 zxi193 68 = true := by decide +kernel
set_option maxRecDepth 100000 in
theorem zhc193 : zheadC 193 (zxi193, 3, 4, 11, 193, 0, 0, 0, 0) (yX11_clears, cX11_clears, none, RX11) 0 1013 6062 125 = true := by decide +kernel
set_option maxRecDepth 100000 in
theorem zh193 : zheadB 193 (zxi193, 3, 4, 11, 193, 0, 0, 0, 0) (yX11_clears, cX11_clears, none, RX11) 0 6063 1013 6062 125 = true := zheadB_of rfl zhc193
theorem zm193 : zOK 193 (zxi193, 3, 4, 11, 193, 0, 0, 0, 0) (yX11_clears, cX11_clears, none, RX11) := zOK_of2 (len := 68) zh193 zr193 (fun pc h => zguard h)
def zps194 : List (Nat × Nat) := [(2, 6064), (9, 6064)]
set_option maxRecDepth 100000 in
theorem zr194 : zrowsB (yX11_slots, cX11_slots, some .int, RX11) zps194 zxi194 16 = true := by decide +kernel
set_option maxRecDepth 100000 in
theorem zhc194 : zheadC 194 (zxi194, 1, 1, 11, 194, 0, 0, 1, 0) (yX11_slots, cX11_slots, some .int, RX11) 0 1013 7137 157 = true := by decide +kernel
set_option maxRecDepth 100000 in
theorem zh194 : zheadB 194 (zxi194, 1, 1, 11, 194, 0, 0, 1, 0) (yX11_slots, cX11_slots, some .int, RX11) 0 7138 1013 7137 157 = true := zheadB_of rfl zhc194
theorem zm194 : zOK 194 (zxi194, 1, 1, 11, 194, 0, 0, 1, 0) (yX11_slots, cX11_slots, some .int, RX11) := zOK_of2 (len := 16) zh194 zr194 (fun pc h => zguard h)
def zps195 : List (Nat × Nat) := [(1, 6064), (7, 6064)]
set_option maxRecDepth 100000 in
theorem zr195 : zrowsB (yX11_across, cX11_across, some .int, RX11) zps195 zxi195 16 = true := by decide +kernel
set_option maxRecDepth 100000 in
theorem zhc195 : zheadC 195 (zxi195, 1, 1, 11, 195, 0, 0, 1, 0) (yX11_across, cX11_across, some .int, RX11) 0 1013 7133 156 = true := by decide +kernel
set_option maxRecDepth 100000 in
theorem zh195 : zheadB 195 (zxi195, 1, 1, 11, 195, 0, 0, 1, 0) (yX11_across, cX11_across, some .int, RX11) 0 7134 1013 7133 156 = true := zheadB_of rfl zhc195
theorem zm195 : zOK 195 (zxi195, 1, 1, 11, 195, 0, 0, 1, 0) (yX11_across, cX11_across, some .int, RX11) := zOK_of2 (len := 16) zh195 zr195 (fun pc h => zguard h)
def zps196 : List (Nat × Nat) := [(1, 7131), (5, 6064), (13, 6064)]
set_option maxRecDepth 100000 in
theorem zr196 : zrowsB (yX11_gates, cX11_gates, some .int, RX11) zps196 zxi196 21 = true := by decide +kernel
set_option maxRecDepth 100000 in
theorem zhc196 : zheadC 196 (zxi196, 1, 1, 11, 196, 0, 0, 1, 0) (yX11_gates, cX11_gates, some .int, RX11) 0 1013 7129 155 = true := by decide +kernel
set_option maxRecDepth 100000 in
theorem zh196 : zheadB 196 (zxi196, 1, 1, 11, 196, 0, 0, 1, 0) (yX11_gates, cX11_gates, some .int, RX11) 0 7130 1013 7129 155 = true := zheadB_of rfl zhc196
theorem zm196 : zOK 196 (zxi196, 1, 1, 11, 196, 0, 0, 1, 0) (yX11_gates, cX11_gates, some .int, RX11) := zOK_of2 (len := 21) zh196 zr196 (fun pc h => zguard h)
def zps197 : List (Nat × Nat) := [(3, 7135), (8, 6220)]
set_option maxRecDepth 100000 in
theorem zr197 : zrowsB (yX11_isSlot, cX11_isSlot, some .boolean, RX11) zps197 zxi197 12 = true := by decide +kernel
set_option maxRecDepth 100000 in
theorem zhc197 : zheadC 197 (zxi197, 2, 2, 11, 197, 0, 0, 2, 0) (yX11_isSlot, cX11_isSlot, some .boolean, RX11) 0 1013 7215 171 = true := by decide +kernel
set_option maxRecDepth 100000 in
theorem zh197 : zheadB 197 (zxi197, 2, 2, 11, 197, 0, 0, 2, 0) (yX11_isSlot, cX11_isSlot, some .boolean, RX11) 0 7216 1013 7215 171 = true := zheadB_of rfl zhc197
theorem zm197 : zOK 197 (zxi197, 2, 2, 11, 197, 0, 0, 2, 0) (yX11_isSlot, cX11_isSlot, some .boolean, RX11) := zOK_of2 (len := 12) zh197 zr197 (fun pc h => zguard h)
def zps198 : List (Nat × Nat) := [(3, 7127), (8, 6220)]
set_option maxRecDepth 100000 in
theorem zr198 : zrowsB (yX11_isGate, cX11_isGate, some .boolean, RX11) zps198 zxi198 12 = true := by decide +kernel
set_option maxRecDepth 100000 in
theorem zhc198 : zheadC 198 (zxi198, 2, 2, 11, 198, 0, 0, 2, 0) (yX11_isGate, cX11_isGate, some .boolean, RX11) 0 1013 7159 160 = true := by decide +kernel
set_option maxRecDepth 100000 in
theorem zh198 : zheadB 198 (zxi198, 2, 2, 11, 198, 0, 0, 2, 0) (yX11_isGate, cX11_isGate, some .boolean, RX11) 0 7160 1013 7159 160 = true := zheadB_of rfl zhc198
theorem zm198 : zOK 198 (zxi198, 2, 2, 11, 198, 0, 0, 2, 0) (yX11_isGate, cX11_isGate, some .boolean, RX11) := zOK_of2 (len := 12) zh198 zr198 (fun pc h => zguard h)
def zps199 : List (Nat × Nat) := [(3, 6064), (10, 6220)]
set_option maxRecDepth 100000 in
theorem zr199 : zrowsB (yX11_isBobbin, cX11_isBobbin, some .boolean, RX11) zps199 zxi199 14 = true := by decide +kernel
set_option maxRecDepth 100000 in
theorem zhc199 : zheadC 199 (zxi199, 2, 2, 11, 199, 0, 0, 2, 0) (yX11_isBobbin, cX11_isBobbin, some .boolean, RX11) 0 1013 7191 166 = true := by decide +kernel
set_option maxRecDepth 100000 in
theorem zh199 : zheadB 199 (zxi199, 2, 2, 11, 199, 0, 0, 2, 0) (yX11_isBobbin, cX11_isBobbin, some .boolean, RX11) 0 7192 1013 7191 166 = true := zheadB_of rfl zhc199
theorem zm199 : zOK 199 (zxi199, 2, 2, 11, 199, 0, 0, 2, 0) (yX11_isBobbin, cX11_isBobbin, some .boolean, RX11) := zOK_of2 (len := 14) zh199 zr199 (fun pc h => zguard h)
def zps200 : List (Nat × Nat) := [(2, 7131), (11, 6064), (20, 6064), (28, 6064), (44, 7131)]
set_option maxRecDepth 100000 in
theorem zr200 : zrowsB (yX11_firstOf, cX11_firstOf, some .int, RX11) zps200 zxi200 52 = true := by decide +kernel
set_option maxRecDepth 100000 in
theorem zhc200 : zheadC 200 (zxi200, 2, 2, 11, 200, 0, 0, 1, 0) (yX11_firstOf, cX11_firstOf, some .int, RX11) 0 1013 7175 164 = true := by decide +kernel
set_option maxRecDepth 100000 in
theorem zh200 : zheadB 200 (zxi200, 2, 2, 11, 200, 0, 0, 1, 0) (yX11_firstOf, cX11_firstOf, some .int, RX11) 0 7176 1013 7175 164 = true := zheadB_of rfl zhc200
theorem zm200 : zOK 200 (zxi200, 2, 2, 11, 200, 0, 0, 1, 0) (yX11_firstOf, cX11_firstOf, some .int, RX11) := zOK_of2 (len := 52) zh200 zr200 (fun pc h => zguard h)
def zps201 : List (Nat × Nat) := [(2, 7131), (10, 7173), (22, 7131), (27, 6064)]
set_option maxRecDepth 100000 in
theorem zr201 : zrowsB (yX11_secondOf, cX11_secondOf, some .int, RX11) zps201 zxi201 35 = true := by decide +kernel
set_option maxRecDepth 100000 in
theorem zhc201 : zheadC 201 (zxi201, 2, 2, 11, 201, 0, 0, 1, 0) (yX11_secondOf, cX11_secondOf, some .int, RX11) 0 1013 7179 165 = true := by decide +kernel
set_option maxRecDepth 100000 in
theorem zh201 : zheadB 201 (zxi201, 2, 2, 11, 201, 0, 0, 1, 0) (yX11_secondOf, cX11_secondOf, some .int, RX11) 0 7180 1013 7179 165 = true := zheadB_of rfl zhc201
theorem zm201 : zOK 201 (zxi201, 2, 2, 11, 201, 0, 0, 1, 0) (yX11_secondOf, cX11_secondOf, some .int, RX11) := zOK_of2 (len := 35) zh201 zr201 (fun pc h => zguard h)
def zps202 : List (Nat × Nat) := [(6, 6064), (15, 6064), (61, 7131), (67, 6064), (77, 6064), (93, 6064), (107, 6064), (122, 7131), (139, 6064)]
set_option maxRecDepth 100000 in
theorem zr202 : zrowsB (yX11_gateAt, cX11_gateAt, some .int, RX11) zps202 zxi202 153 = true := by decide +kernel
set_option maxRecDepth 100000 in
theorem zhc202 : zheadC 202 (zxi202, 2, 5, 11, 202, 0, 0, 1, 0) (yX11_gateAt, cX11_gateAt, some .int, RX11) 0 1013 7235 175 = true := by decide +kernel
set_option maxRecDepth 100000 in
theorem zh202 : zheadB 202 (zxi202, 2, 5, 11, 202, 0, 0, 1, 0) (yX11_gateAt, cX11_gateAt, some .int, RX11) 0 7236 1013 7235 175 = true := zheadB_of rfl zhc202
theorem zm202 : zOK 202 (zxi202, 2, 5, 11, 202, 0, 0, 1, 0) (yX11_gateAt, cX11_gateAt, some .int, RX11) := zOK_of2 (len := 153) zh202 zr202 (fun pc h => zguard h)
def zps203 : List (Nat × Nat) := [(2, 7233), (16, 7173), (25, 7177), (33, 7173)]
set_option maxRecDepth 100000 in
theorem zr203 : zrowsB (yX11_facing, cX11_facing, some .int, RX11) zps203 zxi203 37 = true := by decide +kernel
set_option maxRecDepth 100000 in
theorem zhc203 : zheadC 203 (zxi203, 2, 3, 11, 203, 0, 0, 1, 0) (yX11_facing, cX11_facing, some .int, RX11) 0 1013 7231 174 = true := by decide +kernel
set_option maxRecDepth 100000 in
theorem zh203 : zheadB 203 (zxi203, 2, 3, 11, 203, 0, 0, 1, 0) (yX11_facing, cX11_facing, some .int, RX11) 0 7232 1013 7231 174 = true := zheadB_of rfl zhc203
theorem zm203 : zOK 203 (zxi203, 2, 3, 11, 203, 0, 0, 1, 0) (yX11_facing, cX11_facing, some .int, RX11) := zOK_of2 (len := 37) zh203 zr203 (fun pc h => zguard h)
def zps204 : List (Nat × Nat) := [(6, 6064), (14, 6064)]
set_option maxRecDepth 100000 in
theorem zr204 : zrowsB (yX11_turned, cX11_turned, some .int, RX11) zps204 zxi204 50 = true := by decide +kernel
set_option maxRecDepth 100000 in
theorem zhc204 : zheadC 204 (zxi204, 2, 4, 11, 204, 0, 0, 1, 0) (yX11_turned, cX11_turned, some .int, RX11) 0 1013 8043 180 = true := by decide +kernel
set_option maxRecDepth 100000 in
theorem zh204 : zheadB 204 (zxi204, 2, 4, 11, 204, 0, 0, 1, 0) (yX11_turned, cX11_turned, some .int, RX11) 0 8044 1013 8043 180 = true := zheadB_of rfl zhc204
theorem zm204 : zOK 204 (zxi204, 2, 4, 11, 204, 0, 0, 1, 0) (yX11_turned, cX11_turned, some .int, RX11) := zOK_of2 (len := 50) zh204 zr204 (fun pc h => zguard h)
def zps205 : List (Nat × Nat) := [(5, 6064)]
set_option maxRecDepth 100000 in
theorem zr205 : zrowsB (yX11_xOf, cX11_xOf, some .int, RX11) zps205 zxi205 37 = true := by decide +kernel
set_option maxRecDepth 100000 in
theorem zhc205 : zheadC 205 (zxi205, 2, 2, 11, 205, 0, 0, 1, 0) (yX11_xOf, cX11_xOf, some .int, RX11) 0 1013 7195 167 = true := by decide +kernel
set_option maxRecDepth 100000 in
theorem zh205 : zheadB 205 (zxi205, 2, 2, 11, 205, 0, 0, 1, 0) (yX11_xOf, cX11_xOf, some .int, RX11) 0 7196 1013 7195 167 = true := zheadB_of rfl zhc205
theorem zm205 : zOK 205 (zxi205, 2, 2, 11, 205, 0, 0, 1, 0) (yX11_xOf, cX11_xOf, some .int, RX11) := zOK_of2 (len := 37) zh205 zr205 (fun pc h => zguard h)
def zps206 : List (Nat × Nat) := [(5, 6064)]
set_option maxRecDepth 100000 in
theorem zr206 : zrowsB (yX11_yOf, cX11_yOf, some .int, RX11) zps206 zxi206 36 = true := by decide +kernel
set_option maxRecDepth 100000 in
theorem zhc206 : zheadC 206 (zxi206, 2, 2, 11, 206, 0, 0, 1, 0) (yX11_yOf, cX11_yOf, some .int, RX11) 0 1013 7199 168 = true := by decide +kernel
set_option maxRecDepth 100000 in
theorem zh206 : zheadB 206 (zxi206, 2, 2, 11, 206, 0, 0, 1, 0) (yX11_yOf, cX11_yOf, some .int, RX11) 0 7200 1013 7199 168 = true := zheadB_of rfl zhc206
theorem zm206 : zOK 206 (zxi206, 2, 2, 11, 206, 0, 0, 1, 0) (yX11_yOf, cX11_yOf, some .int, RX11) := zOK_of2 (len := 36) zh206 zr206 (fun pc h => zguard h)
def zps207 : List (Nat × Nat) := [(2, 7193), (7, 7193), (15, 7193), (20, 7193), (36, 7197), (41, 7197)]
set_option maxRecDepth 100000 in
theorem zr207 : zrowsB (yX11_isAhead, cX11_isAhead, some .boolean, RX11) zps207 zxi207 53 = true := by decide +kernel
set_option maxRecDepth 100000 in
theorem zhc207 : zheadC 207 (zxi207, 3, 3, 11, 207, 0, 0, 2, 0) (yX11_isAhead, cX11_isAhead, some .boolean, RX11) 0 1013 7207 170 = true := by decide +kernel
set_option maxRecDepth 100000 in
theorem zh207 : zheadB 207 (zxi207, 3, 3, 11, 207, 0, 0, 2, 0) (yX11_isAhead, cX11_isAhead, some .boolean, RX11) 0 7208 1013 7207 170 = true := zheadB_of rfl zhc207
theorem zm207 : zOK 207 (zxi207, 3, 3, 11, 207, 0, 0, 2, 0) (yX11_isAhead, cX11_isAhead, some .boolean, RX11) := zOK_of2 (len := 53) zh207 zr207 (fun pc h => zguard h)
def zps208 : List (Nat × Nat) := [(1, 6073), (8, 6064), (19, 6068), (26, 6069), (34, 6070), (41, 6071)]
set_option maxRecDepth 100000 in
theorem zr208 : zrowsB (yX11_howStuck, cX11_howStuck, some .int, RX11) zps208 zxi208 49 = true := by decide +kernel
set_option maxRecDepth 100000 in
theorem zhc208 : zheadC 208 (zxi208, 2, 2, 11, 208, 0, 0, 1, 0) (yX11_howStuck, cX11_howStuck, some .int, RX11) 0 1013 7167 162 = true := by decide +kernel
set_option maxRecDepth 100000 in
theorem zh208 : zheadB 208 (zxi208, 2, 2, 11, 208, 0, 0, 1, 0) (yX11_howStuck, cX11_howStuck, some .int, RX11) 0 7168 1013 7167 162 = true := zheadB_of rfl zhc208
theorem zm208 : zOK 208 (zxi208, 2, 2, 11, 208, 0, 0, 1, 0) (yX11_howStuck, cX11_howStuck, some .int, RX11) := zOK_of2 (len := 49) zh208 zr208 (fun pc h => zguard h)
def zps209 : List (Nat × Nat) := [(11, 6064)]
set_option maxRecDepth 100000 in
theorem zr209 : zrowsB (yX11_freeNumber, cX11_freeNumber, some .int, RX11) zps209 zxi209 29 = true := by decide +kernel
set_option maxRecDepth 100000 in
theorem zhc209 : zheadC 209 (zxi209, 2, 4, 11, 209, 0, 0, 1, 0) (yX11_freeNumber, cX11_freeNumber, some .int, RX11) 0 1013 7171 163 = true := by decide +kernel
set_option maxRecDepth 100000 in
theorem zh209 : zheadB 209 (zxi209, 2, 4, 11, 209, 0, 0, 1, 0) (yX11_freeNumber, cX11_freeNumber, some .int, RX11) 0 7172 1013 7171 163 = true := zheadB_of rfl zhc209
theorem zm209 : zOK 209 (zxi209, 2, 4, 11, 209, 0, 0, 1, 0) (yX11_freeNumber, cX11_freeNumber, some .int, RX11) := zOK_of2 (len := 29) zh209 zr209 (fun pc h => zguard h)
def zps210 : List (Nat × Nat) := [(2, 7165), (22, 6072), (29, 6064), (42, 6072), (47, 7169), (64, 6064), (74, 6064)]
set_option maxRecDepth 100000 in
theorem zr210 : zrowsB (yX11_isOpen, cX11_isOpen, some .boolean, RX11) zps210 zxi210 96 = true := by decide +kernel
set_option maxRecDepth 100000 in
theorem zhc210 : zheadC 210 (zxi210, 3, 4, 11, 210, 0, 0, 2, 0) (yX11_isOpen, cX11_isOpen, some .boolean, RX11) 0 1013 7163 161 = true := by decide +kernel
set_option maxRecDepth 100000 in
theorem zh210 : zheadB 210 (zxi210, 3, 4, 11, 210, 0, 0, 2, 0) (yX11_isOpen, cX11_isOpen, some .boolean, RX11) 0 7164 1013 7163 161 = true := zheadB_of rfl zhc210
theorem zm210 : zOK 210 (zxi210, 3, 4, 11, 210, 0, 0, 2, 0) (yX11_isOpen, cX11_isOpen, some .boolean, RX11) := zOK_of2 (len := 96) zh210 zr210 (fun pc h => zguard h)
def zps211 : List (Nat × Nat) := [(2, 7233), (13, 7161), (21, 7229)]
set_option maxRecDepth 100000 in
theorem zr211 : zrowsB (yX11_over, cX11_over, some .int, RX11) zps211 zxi211 29 = true := by decide +kernel
set_option maxRecDepth 100000 in
theorem zhc211 : zheadC 211 (zxi211, 3, 4, 11, 211, 0, 0, 1, 0) (yX11_over, cX11_over, some .int, RX11) 0 1013 8051 182 = true := by decide +kernel
set_option maxRecDepth 100000 in
theorem zh211 : zheadB 211 (zxi211, 3, 4, 11, 211, 0, 0, 1, 0) (yX11_over, cX11_over, some .int, RX11) 0 8052 1013 8051 182 = true := zheadB_of rfl zhc211
theorem zm211 : zOK 211 (zxi211, 3, 4, 11, 211, 0, 0, 1, 0) (yX11_over, cX11_over, some .int, RX11) := zOK_of2 (len := 29) zh211 zr211 (fun pc h => zguard h)
def zps212 : List (Nat × Nat) := [(3, 8041), (7, 8049)]
set_option maxRecDepth 100000 in
theorem zr212 : zrowsB (yX11_mapped, cX11_mapped, some .int, RX11) zps212 zxi212 11 = true := by decide +kernel
set_option maxRecDepth 100000 in
theorem zhc212 : zheadC 212 (zxi212, 3, 3, 11, 212, 0, 0, 1, 0) (yX11_mapped, cX11_mapped, some .int, RX11) 0 1013 8084 187 = true := by decide +kernel
set_option maxRecDepth 100000 in
theorem zh212 : zheadB 212 (zxi212, 3, 3, 11, 212, 0, 0, 1, 0) (yX11_mapped, cX11_mapped, some .int, RX11) 0 8085 1013 8084 187 = true := zheadB_of rfl zhc212
theorem zm212 : zOK 212 (zxi212, 3, 3, 11, 212, 0, 0, 1, 0) (yX11_mapped, cX11_mapped, some .int, RX11) := zOK_of2 (len := 11) zh212 zr212 (fun pc h => zguard h)
def zps213 : List (Nat × Nat) := [(12, 7150)]
set_option maxRecDepth 100000 in
theorem zr213 : zrowsB (yX11_common, cX11_common, some .int, RX11) zps213 zxi213 16 = true := by decide +kernel
set_option maxRecDepth 100000 in
theorem zhc213 : zheadC 213 (zxi213, 2, 2, 11, 213, 0, 0, 1, 0) (yX11_common, cX11_common, some .int, RX11) 2 1013 7151 0 = true := by decide +kernel
set_option maxRecDepth 100000 in
theorem zh213 : zheadB 213 (zxi213, 2, 2, 11, 213, 0, 0, 1, 0) (yX11_common, cX11_common, some .int, RX11) 2 7152 1013 7151 0 = true := zheadB_of rfl zhc213
theorem zm213 : zOK 213 (zxi213, 2, 2, 11, 213, 0, 0, 1, 0) (yX11_common, cX11_common, some .int, RX11) := zOK_of2 (len := 16) zh213 zr213 (fun pc h => zguard h)
def zps214 : List (Nat × Nat) := [(3, 7150)]
set_option maxRecDepth 100000 in
theorem zr214 : zrowsB (yX11_multiple, cX11_multiple, some .int, RX11) zps214 zxi214 10 = true := by decide +kernel
set_option maxRecDepth 100000 in
theorem zhc214 : zheadC 214 (zxi214, 2, 2, 11, 214, 0, 0, 1, 0) (yX11_multiple, cX11_multiple, some .int, RX11) 2 1013 7148 0 = true := by decide +kernel
set_option maxRecDepth 100000 in
theorem zh214 : zheadB 214 (zxi214, 2, 2, 11, 214, 0, 0, 1, 0) (yX11_multiple, cX11_multiple, some .int, RX11) 2 7149 1013 7148 0 = true := zheadB_of rfl zhc214
theorem zm214 : zOK 214 (zxi214, 2, 2, 11, 214, 0, 0, 1, 0) (yX11_multiple, cX11_multiple, some .int, RX11) := zOK_of2 (len := 10) zh214 zr214 (fun pc h => zguard h)
def zps215 : List (Nat × Nat) := [(6, 7127), (14, 6064), (22, 7147)]
set_option maxRecDepth 100000 in
theorem zr215 : zrowsB (yX11_period, cX11_period, some .int, RX11) zps215 zxi215 34 = true := by decide +kernel
set_option maxRecDepth 100000 in
theorem zhc215 : zheadC 215 (zxi215, 1, 3, 11, 215, 0, 0, 1, 0) (yX11_period, cX11_period, some .int, RX11) 0 1013 7145 159 = true := by decide +kernel
set_option maxRecDepth 100000 in
theorem zh215 : zheadB 215 (zxi215, 1, 3, 11, 215, 0, 0, 1, 0) (yX11_period, cX11_period, some .int, RX11) 0 7146 1013 7145 159 = true := zheadB_of rfl zhc215
theorem zm215 : zOK 215 (zxi215, 1, 3, 11, 215, 0, 0, 1, 0) (yX11_period, cX11_period, some .int, RX11) := zOK_of2 (len := 34) zh215 zr215 (fun pc h => zguard h)
def zps216 : List (Nat × Nat) := [(8, 7143), (20, 8082)]
set_option maxRecDepth 100000 in
theorem zr216 : zrowsB (yX11_rounded, cX11_rounded, some .int, RX11) zps216 zxi216 32 = true := by decide +kernel
set_option maxRecDepth 100000 in
theorem zhc216 : zheadC 216 (zxi216, 3, 5, 11, 216, 0, 0, 1, 0) (yX11_rounded, cX11_rounded, some .int, RX11) 0 1013 8096 188 = true := by decide +kernel
set_option maxRecDepth 100000 in
theorem zh216 : zheadB 216 (zxi216, 3, 5, 11, 216, 0, 0, 1, 0) (yX11_rounded, cX11_rounded, some .int, RX11) 0 8097 1013 8096 188 = true := zheadB_of rfl zhc216
theorem zm216 : zOK 216 (zxi216, 3, 5, 11, 216, 0, 0, 1, 0) (yX11_rounded, cX11_rounded, some .int, RX11) := zOK_of2 (len := 32) zh216 zr216 (fun pc h => zguard h)
def zps217 : List (Nat × Nat) := [(5, 8094), (23, 8094)]
set_option maxRecDepth 100000 in
theorem zr217 : zrowsB (yX11_lengthOf, cX11_lengthOf, some .int, RX11) zps217 zxi217 33 = true := by decide +kernel
set_option maxRecDepth 100000 in
theorem zhc217 : zheadC 217 (zxi217, 3, 5, 11, 217, 0, 0, 1, 0) (yX11_lengthOf, cX11_lengthOf, some .int, RX11) 0 1013 8104 189 = true := by decide +kernel
set_option maxRecDepth 100000 in
theorem zh217 : zheadB 217 (zxi217, 3, 5, 11, 217, 0, 0, 1, 0) (yX11_lengthOf, cX11_lengthOf, some .int, RX11) 0 8105 1013 8104 189 = true := zheadB_of rfl zhc217
theorem zm217 : zOK 217 (zxi217, 3, 5, 11, 217, 0, 0, 1, 0) (yX11_lengthOf, cX11_lengthOf, some .int, RX11) := zOK_of2 (len := 33) zh217 zr217 (fun pc h => zguard h)
def zps218 : List (Nat × Nat) := [(6, 6064), (20, 6064), (30, 6075), (35, 7229), (39, 6075), (52, 6075), (57, 7233), (80, 6080), (85, 6081)]
set_option maxRecDepth 100000 in
theorem zr218 : zrowsB (yX11_meeting, cX11_meeting, some .int, RX11) zps218 zxi218 102 = true := by decide +kernel
set_option maxRecDepth 100000 in
theorem zhc218 : zheadC 218 (zxi218, 1, 5, 11, 218, 0, 0, 1, 0) (yX11_meeting, cX11_meeting, some .int, RX11) 0 1013 8047 181 = true := by decide +kernel
set_option maxRecDepth 100000 in
theorem zh218 : zheadB 218 (zxi218, 1, 5, 11, 218, 0, 0, 1, 0) (yX11_meeting, cX11_meeting, some .int, RX11) 0 8048 1013 8047 181 = true := zheadB_of rfl zhc218
theorem zm218 : zOK 218 (zxi218, 1, 5, 11, 218, 0, 0, 1, 0) (yX11_meeting, cX11_meeting, some .int, RX11) := zOK_of2 (len := 102) zh218 zr218 (fun pc h => zguard h)
def zps219 : List (Nat × Nat) := [(4, 6064), (13, 6075), (19, 6074), (24, 8041), (36, 8045), (39, 6079), (43, 6079), (55, 6064), (64, 6075), (70, 6075), (76, 8049)]
set_option maxRecDepth 100000 in
theorem zr219 : zrowsB (yX11_tries, cX11_tries, some .boolean, RX11) zps219 zxi219 88 = true := by decide +kernel
set_option maxRecDepth 100000 in
theorem zhc219 : zheadC 219 (zxi219, 2, 3, 11, 219, 0, 0, 2, 0) (yX11_tries, cX11_tries, some .boolean, RX11) 0 1013 8039 179 = true := by decide +kernel
set_option maxRecDepth 100000 in
theorem zh219 : zheadB 219 (zxi219, 2, 3, 11, 219, 0, 0, 2, 0) (yX11_tries, cX11_tries, some .boolean, RX11) 0 8040 1013 8039 179 = true := zheadB_of rfl zhc219
theorem zm219 : zOK 219 (zxi219, 2, 3, 11, 219, 0, 0, 2, 0) (yX11_tries, cX11_tries, some .boolean, RX11) := zOK_of2 (len := 88) zh219 zr219 (fun pc h => zguard h)
def zps220 : List (Nat × Nat) := [(2, 6074), (7, 7197), (12, 6075), (17, 7197), (24, 6074), (29, 7197), (34, 6075), (39, 7197)]
set_option maxRecDepth 100000 in
theorem zr220 : zrowsB (yX11_isInFront, cX11_isInFront, some .boolean, RX11) zps220 zxi220 76 = true := by decide +kernel
set_option maxRecDepth 100000 in
theorem zhc220 : zheadC 220 (zxi220, 3, 5, 11, 220, 0, 0, 2, 0) (yX11_isInFront, cX11_isInFront, some .boolean, RX11) 0 1013 8063 185 = true := by decide +kernel
set_option maxRecDepth 100000 in
theorem zh220 : zheadB 220 (zxi220, 3, 5, 11, 220, 0, 0, 2, 0) (yX11_isInFront, cX11_isInFront, some .boolean, RX11) 0 8064 1013 8063 185 = true := zheadB_of rfl zhc220
theorem zm220 : zOK 220 (zxi220, 3, 5, 11, 220, 0, 0, 2, 0) (yX11_isInFront, cX11_isInFront, some .boolean, RX11) := zOK_of2 (len := 76) zh220 zr220 (fun pc h => zguard h)
def zps221 : List (Nat × Nat) := [(4, 6064), (20, 6074), (26, 6074), (30, 6076), (38, 7205), (45, 6076), (50, 6076), (65, 6076)]
set_option maxRecDepth 100000 in
theorem zr221 : zrowsB (yX11_stands, cX11_stands, none, RX11) zps221 zxi221 78 = true := by decide +kernel
set_option maxRecDepth 100000 in
theorem zhc221 : zheadC 221 (zxi221, 1, 3, 11, 221, 0, 0, 0, 0) (yX11_stands, cX11_stands, none, RX11) 0 1013 8059 184 = true := by decide +kernel
set_option maxRecDepth 100000 in
theorem zh221 : zheadB 221 (zxi221, 1, 3, 11, 221, 0, 0, 0, 0) (yX11_stands, cX11_stands, none, RX11) 0 8060 1013 8059 184 = true := zheadB_of rfl zhc221
theorem zm221 : zOK 221 (zxi221, 1, 3, 11, 221, 0, 0, 0, 0) (yX11_stands, cX11_stands, none, RX11) := zOK_of2 (len := 78) zh221 zr221 (fun pc h => zguard h)
def zps222 : List (Nat × Nat) := [(1, 6078), (11, 6077), (15, 6078), (22, 6078), (27, 6078)]
set_option maxRecDepth 100000 in
theorem zr222 : zrowsB (yX11_spells, cX11_spells, none, RX11) zps222 zxi222 31 = true := by decide +kernel
set_option maxRecDepth 100000 in
theorem zhc222 : zheadC 222 (zxi222, 2, 2, 11, 222, 0, 0, 0, 0) (yX11_spells, cX11_spells, none, RX11) 0 1013 8067 186 = true := by decide +kernel
set_option maxRecDepth 100000 in
theorem zh222 : zheadB 222 (zxi222, 2, 2, 11, 222, 0, 0, 0, 0) (yX11_spells, cX11_spells, none, RX11) 0 8068 1013 8067 186 = true := zheadB_of rfl zhc222
theorem zm222 : zOK 222 (zxi222, 2, 2, 11, 222, 0, 0, 0, 0) (yX11_spells, cX11_spells, none, RX11) := zOK_of2 (len := 31) zh222 zr222 (fun pc h => zguard h)
def zps223 : List (Nat × Nat) := [(1, 8057), (10, 6064), (19, 6076), (26, 6076), (36, 6075), (42, 6075), (47, 7205), (63, 8061), (80, 8065), (84, 6076), (91, 6076)]
set_option maxRecDepth 100000 in
theorem zr223 : zrowsB (yX11_spellsStep, cX11_spellsStep, none, RX11) zps223 zxi223 105 = true := by decide +kernel
set_option maxRecDepth 100000 in
theorem zhc223 : zheadC 223 (zxi223, 1, 4, 11, 223, 0, 0, 0, 0) (yX11_spellsStep, cX11_spellsStep, none, RX11) 0 1013 8055 183 = true := by decide +kernel
set_option maxRecDepth 100000 in
theorem zh223 : zheadB 223 (zxi223, 1, 4, 11, 223, 0, 0, 0, 0) (yX11_spellsStep, cX11_spellsStep, none, RX11) 0 8056 1013 8055 183 = true := zheadB_of rfl zhc223
theorem zm223 : zOK 223 (zxi223, 1, 4, 11, 223, 0, 0, 0, 0) (yX11_spellsStep, cX11_spellsStep, none, RX11) := zOK_of2 (len := 105) zh223 zr223 (fun pc h => zguard h)
def zps224 : List (Nat × Nat) := [(4, 6064), (13, 6074), (18, 6075)]
set_option maxRecDepth 100000 in
theorem zr224 : zrowsB (yX11_goes, cX11_goes, none, RX11) zps224 zxi224 31 = true := by decide +kernel
set_option maxRecDepth 100000 in
theorem zhc224 : zheadC 224 (zxi224, 1, 2, 11, 224, 0, 0, 0, 0) (yX11_goes, cX11_goes, none, RX11) 0 1013 8163 196 = true := by decide +kernel
set_option maxRecDepth 100000 in
theorem zh224 : zheadB 224 (zxi224, 1, 2, 11, 224, 0, 0, 0, 0) (yX11_goes, cX11_goes, none, RX11) 0 8164 1013 8163 196 = true := zheadB_of rfl zhc224
theorem zm224 : zOK 224 (zxi224, 1, 2, 11, 224, 0, 0, 0, 0) (yX11_goes, cX11_goes, none, RX11) := zOK_of2 (len := 31) zh224 zr224 (fun pc h => zguard h)
def zps225 : List (Nat × Nat) := [(4, 6064), (13, 6074), (18, 6064), (36, 6078)]
set_option maxRecDepth 100000 in
theorem zr225 : zrowsB (yX11_begins, cX11_begins, none, RX11) zps225 zxi225 40 = true := by decide +kernel
set_option maxRecDepth 100000 in
theorem zhc225 : zheadC 225 (zxi225, 1, 2, 11, 225, 0, 0, 0, 0) (yX11_begins, cX11_begins, none, RX11) 0 1013 8159 195 = true := by decide +kernel
set_option maxRecDepth 100000 in
theorem zh225 : zheadB 225 (zxi225, 1, 2, 11, 225, 0, 0, 0, 0) (yX11_begins, cX11_begins, none, RX11) 0 8160 1013 8159 195 = true := zheadB_of rfl zhc225
theorem zm225 : zOK 225 (zxi225, 1, 2, 11, 225, 0, 0, 0, 0) (yX11_begins, cX11_begins, none, RX11) := zOK_of2 (len := 40) zh225 zr225 (fun pc h => zguard h)
def zps226 : List (Nat × Nat) := [(1, 6082)]
set_option maxRecDepth 100000 in
theorem zr226 : zrowsB (yX11_goesTo, cX11_goesTo, some .int, RX11) zps226 zxi226 12 = true := by decide +kernel
set_option maxRecDepth 100000 in
theorem zhc226 : zheadC 226 (zxi226, 3, 3, 11, 226, 0, 0, 1, 0) (yX11_goesTo, cX11_goesTo, some .int, RX11) 0 1013 7025 136 = true := by decide +kernel
set_option maxRecDepth 100000 in
theorem zh226 : zheadB 226 (zxi226, 3, 3, 11, 226, 0, 0, 1, 0) (yX11_goesTo, cX11_goesTo, some .int, RX11) 0 7026 1013 7025 136 = true := zheadB_of rfl zhc226
theorem zm226 : zOK 226 (zxi226, 3, 3, 11, 226, 0, 0, 1, 0) (yX11_goesTo, cX11_goesTo, some .int, RX11) := zOK_of2 (len := 12) zh226 zr226 (fun pc h => zguard h)
def zps227 : List (Nat × Nat) := [(1, 6082)]
set_option maxRecDepth 100000 in
theorem zr227 : zrowsB (yX11_lays, cX11_lays, none, RX11) zps227 zxi227 13 = true := by decide +kernel
set_option maxRecDepth 100000 in
theorem zhc227 : zheadC 227 (zxi227, 4, 4, 11, 227, 0, 0, 0, 0) (yX11_lays, cX11_lays, none, RX11) 0 1013 7029 137 = true := by decide +kernel
set_option maxRecDepth 100000 in
theorem zh227 : zheadB 227 (zxi227, 4, 4, 11, 227, 0, 0, 0, 0) (yX11_lays, cX11_lays, none, RX11) 0 7030 1013 7029 137 = true := zheadB_of rfl zhc227
theorem zm227 : zOK 227 (zxi227, 4, 4, 11, 227, 0, 0, 0, 0) (yX11_lays, cX11_lays, none, RX11) := zOK_of2 (len := 13) zh227 zr227 (fun pc h => zguard h)
def zps228 : List (Nat × Nat) := [(3, 7023), (11, 7023)]
set_option maxRecDepth 100000 in
theorem zr228 : zrowsB (yX11_isBegun, cX11_isBegun, some .boolean, RX11) zps228 zxi228 23 = true := by decide +kernel
set_option maxRecDepth 100000 in
theorem zhc228 : zheadC 228 (zxi228, 3, 3, 11, 228, 0, 0, 2, 0) (yX11_isBegun, cX11_isBegun, some .boolean, RX11) 0 1013 7045 141 = true := by decide +kernel
set_option maxRecDepth 100000 in
theorem zh228 : zheadB 228 (zxi228, 3, 3, 11, 228, 0, 0, 2, 0) (yX11_isBegun, cX11_isBegun, some .boolean, RX11) 0 7046 1013 7045 141 = true := zheadB_of rfl zhc228
theorem zm228 : zOK 228 (zxi228, 3, 3, 11, 228, 0, 0, 2, 0) (yX11_isBegun, cX11_isBegun, some .boolean, RX11) := zOK_of2 (len := 23) zh228 zr228 (fun pc h => zguard h)
def zps229 : List (Nat × Nat) := [(5, 7023)]
set_option maxRecDepth 100000 in
theorem zr229 : zrowsB (yX11_comesFrom, cX11_comesFrom, some .int, RX11) zps229 zxi229 20 = true := by decide +kernel
set_option maxRecDepth 100000 in
theorem zhc229 : zheadC 229 (zxi229, 3, 4, 11, 229, 0, 0, 1, 0) (yX11_comesFrom, cX11_comesFrom, some .int, RX11) 0 1013 7033 138 = true := by decide +kernel
set_option maxRecDepth 100000 in
theorem zh229 : zheadB 229 (zxi229, 3, 4, 11, 229, 0, 0, 1, 0) (yX11_comesFrom, cX11_comesFrom, some .int, RX11) 0 7034 1013 7033 138 = true := zheadB_of rfl zhc229
theorem zm229 : zOK 229 (zxi229, 3, 4, 11, 229, 0, 0, 1, 0) (yX11_comesFrom, cX11_comesFrom, some .int, RX11) := zOK_of2 (len := 20) zh229 zr229 (fun pc h => zguard h)
def zps230 : List (Nat × Nat) := [(3, 7031), (11, 7031)]
set_option maxRecDepth 100000 in
theorem zr230 : zrowsB (yX11_isEnded, cX11_isEnded, some .boolean, RX11) zps230 zxi230 23 = true := by decide +kernel
set_option maxRecDepth 100000 in
theorem zhc230 : zheadC 230 (zxi230, 3, 3, 11, 230, 0, 0, 2, 0) (yX11_isEnded, cX11_isEnded, some .boolean, RX11) 0 1013 7049 142 = true := by decide +kernel
set_option maxRecDepth 100000 in
theorem zh230 : zheadB 230 (zxi230, 3, 3, 11, 230, 0, 0, 2, 0) (yX11_isEnded, cX11_isEnded, some .boolean, RX11) 0 7050 1013 7049 142 = true := zheadB_of rfl zhc230
theorem zm230 : zOK 230 (zxi230, 3, 3, 11, 230, 0, 0, 2, 0) (yX11_isEnded, cX11_isEnded, some .boolean, RX11) := zOK_of2 (len := 23) zh230 zr230 (fun pc h => zguard h)
def zps231 : List (Nat × Nat) := [(4, 6085), (13, 7023)]
set_option maxRecDepth 100000 in
theorem zr231 : zrowsB (yX11_isNothing, cX11_isNothing, some .boolean, RX11) zps231 zxi231 30 = true := by decide +kernel
set_option maxRecDepth 100000 in
theorem zhc231 : zheadC 231 (zxi231, 2, 3, 11, 231, 0, 0, 2, 0) (yX11_isNothing, cX11_isNothing, some .boolean, RX11) 0 1013 7053 143 = true := by decide +kernel
set_option maxRecDepth 100000 in
theorem zh231 : zheadB 231 (zxi231, 2, 3, 11, 231, 0, 0, 2, 0) (yX11_isNothing, cX11_isNothing, some .boolean, RX11) 0 7054 1013 7053 143 = true := zheadB_of rfl zhc231
theorem zm231 : zOK 231 (zxi231, 2, 3, 11, 231, 0, 0, 2, 0) (yX11_isNothing, cX11_isNothing, some .boolean, RX11) := zOK_of2 (len := 30) zh231 zr231 (fun pc h => zguard h)
def zps232 : List (Nat × Nat) := [(4, 6085), (13, 7023), (17, 6085)]
set_option maxRecDepth 100000 in
theorem zr232 : zrowsB (yX11_isHalfTurn, cX11_isHalfTurn, some .boolean, RX11) zps232 zxi232 37 = true := by decide +kernel
set_option maxRecDepth 100000 in
theorem zhc232 : zheadC 232 (zxi232, 2, 3, 11, 232, 0, 0, 2, 0) (yX11_isHalfTurn, cX11_isHalfTurn, some .boolean, RX11) 0 1013 7057 144 = true := by decide +kernel
set_option maxRecDepth 100000 in
theorem zh232 : zheadB 232 (zxi232, 2, 3, 11, 232, 0, 0, 2, 0) (yX11_isHalfTurn, cX11_isHalfTurn, some .boolean, RX11) 0 7058 1013 7057 144 = true := zheadB_of rfl zhc232
theorem zm232 : zOK 232 (zxi232, 2, 3, 11, 232, 0, 0, 2, 0) (yX11_isHalfTurn, cX11_isHalfTurn, some .boolean, RX11) := zOK_of2 (len := 37) zh232 zr232 (fun pc h => zguard h)
def zps233 : List (Nat × Nat) := [(14, 6085), (24, 7043), (34, 7047), (50, 7031), (61, 7031), (74, 7027), (83, 7027), (90, 7023), (105, 7023), (108, 7027), (119, 7027)]
set_option maxRecDepth 100000 in
theorem zr233 : zrowsB (yX11_shares, cX11_shares, some .boolean, RX11) zps233 zxi233 132 = true := by decide +kernel
set_option maxRecDepth 100000 in
theorem zhc233 : zheadC 233 (zxi233, 2, 8, 11, 233, 0, 0, 2, 0) (yX11_shares, cX11_shares, some .boolean, RX11) 0 1013 7041 140 = true := by decide +kernel
set_option maxRecDepth 100000 in
theorem zh233 : zheadB 233 (zxi233, 2, 8, 11, 233, 0, 0, 2, 0) (yX11_shares, cX11_shares, some .boolean, RX11) 0 7042 1013 7041 140 = true := zheadB_of rfl zhc233
theorem zm233 : zOK 233 (zxi233, 2, 8, 11, 233, 0, 0, 2, 0) (yX11_shares, cX11_shares, some .boolean, RX11) := zOK_of2 (len := 132) zh233 zr233 (fun pc h => zguard h)
def zps234 : List (Nat × Nat) := [(9, 6083), (19, 6082), (24, 6082), (41, 6083), (46, 6083)]
set_option maxRecDepth 100000 in
theorem zr234 : zrowsB (yX11_leavesOut, cX11_leavesOut, none, RX11) zps234 zxi234 50 = true := by decide +kernel
set_option maxRecDepth 100000 in
theorem zhc234 : zheadC 234 (zxi234, 2, 3, 11, 234, 0, 0, 0, 0) (yX11_leavesOut, cX11_leavesOut, none, RX11) 0 1013 7061 145 = true := by decide +kernel
set_option maxRecDepth 100000 in
theorem zh234 : zheadB 234 (zxi234, 2, 3, 11, 234, 0, 0, 0, 0) (yX11_leavesOut, cX11_leavesOut, none, RX11) 0 7062 1013 7061 145 = true := zheadB_of rfl zhc234
theorem zm234 : zOK 234 (zxi234, 2, 3, 11, 234, 0, 0, 0, 0) (yX11_leavesOut, cX11_leavesOut, none, RX11) := zOK_of2 (len := 50) zh234 zr234 (fun pc h => zguard h)
def zps235 : List (Nat × Nat) := [(1, 6086), (9, 6085), (20, 7023), (34, 6085), (43, 6085), (51, 6085), (60, 7027)]
set_option maxRecDepth 100000 in
theorem zr235 : zrowsB (yX11_mirrors, cX11_mirrors, none, RX11) zps235 zxi235 70 = true := by decide +kernel
set_option maxRecDepth 100000 in
theorem zhc235 : zheadC 235 (zxi235, 2, 4, 11, 235, 0, 0, 0, 0) (yX11_mirrors, cX11_mirrors, none, RX11) 0 1013 7021 135 = true := by decide +kernel
set_option maxRecDepth 100000 in
theorem zh235 : zheadB 235 (zxi235, 2, 4, 11, 235, 0, 0, 0, 0) (yX11_mirrors, cX11_mirrors, none, RX11) 0 7022 1013 7021 135 = true := zheadB_of rfl zhc235
theorem zm235 : zOK 235 (zxi235, 2, 4, 11, 235, 0, 0, 0, 0) (yX11_mirrors, cX11_mirrors, none, RX11) := zOK_of2 (len := 70) zh235 zr235 (fun pc h => zguard h)
def zps236 : List (Nat × Nat) := [(1, 6083), (13, 7039), (26, 6083), (34, 6083), (39, 7051), (47, 6083), (52, 6083), (59, 6083), (67, 7055), (75, 7059), (80, 6084), (85, 6084)]
set_option maxRecDepth 100000 in
theorem zr236 : zrowsB (yX11_settles, cX11_settles, none, RX11) zps236 zxi236 92 = true := by decide +kernel
set_option maxRecDepth 100000 in
theorem zhc236 : zheadC 236 (zxi236, 1, 2, 11, 236, 0, 0, 0, 0) (yX11_settles, cX11_settles, none, RX11) 0 1013 7037 139 = true := by decide +kernel
set_option maxRecDepth 100000 in
theorem zh236 : zheadB 236 (zxi236, 1, 2, 11, 236, 0, 0, 0, 0) (yX11_settles, cX11_settles, none, RX11) 0 7038 1013 7037 139 = true := zheadB_of rfl zhc236
theorem zm236 : zOK 236 (zxi236, 1, 2, 11, 236, 0, 0, 0, 0) (yX11_settles, cX11_settles, none, RX11) := zOK_of2 (len := 92) zh236 zr236 (fun pc h => zguard h)
def zps237 : List (Nat × Nat) := [(22, 6083), (30, 7019), (41, 6084), (46, 6084), (53, 6085), (61, 6083), (74, 6085), (81, 7027), (96, 6083), (103, 7027), (108, 6083), (115, 7027), (123, 6083), (127, 7031), (133, 6083), (139, 7031), (146, 6083), (153, 7027), (158, 6083), (164, 7027), (169, 6083), (174, 6083), (178, 7035)]
set_option maxRecDepth 100000 in
theorem zr237 : zrowsB (yX11_joins, cX11_joins, none, RX11) zps237 zxi237 182 = true := by decide +kernel
set_option maxRecDepth 100000 in
theorem zhc237 : zheadC 237 (zxi237, 2, 5, 11, 237, 0, 0, 0, 0) (yX11_joins, cX11_joins, none, RX11) 0 1013 7017 134 = true := by decide +kernel
set_option maxRecDepth 100000 in
theorem zh237 : zheadB 237 (zxi237, 2, 5, 11, 237, 0, 0, 0, 0) (yX11_joins, cX11_joins, none, RX11) 0 7018 1013 7017 134 = true := zheadB_of rfl zhc237
theorem zm237 : zOK 237 (zxi237, 2, 5, 11, 237, 0, 0, 0, 0) (yX11_joins, cX11_joins, none, RX11) := zOK_of2 (len := 182) zh237 zr237 (fun pc h => zguard h)
def zps238 : List (Nat × Nat) := [(2, 6064), (7, 6085), (12, 6083), (17, 6084)]
set_option maxRecDepth 100000 in
theorem zr238 : zrowsB (yX11_beginsBraid, cX11_beginsBraid, none, RX11) zps238 zxi238 21 = true := by decide +kernel
set_option maxRecDepth 100000 in
theorem zhc238 : zheadC 238 (zxi238, 1, 1, 11, 238, 0, 0, 0, 0) (yX11_beginsBraid, cX11_beginsBraid, none, RX11) 0 1013 7009 132 = true := by decide +kernel
set_option maxRecDepth 100000 in
theorem zh238 : zheadB 238 (zxi238, 1, 1, 11, 238, 0, 0, 0, 0) (yX11_beginsBraid, cX11_beginsBraid, none, RX11) 0 7010 1013 7009 132 = true := zheadB_of rfl zhc238
theorem zm238 : zOK 238 (zxi238, 1, 1, 11, 238, 0, 0, 0, 0) (yX11_beginsBraid, cX11_beginsBraid, none, RX11) := zOK_of2 (len := 21) zh238 zr238 (fun pc h => zguard h)
def zps239 : List (Nat × Nat) := [(1, 6083), (8, 6084)]
set_option maxRecDepth 100000 in
theorem zr239 : zrowsB (yX11_isNoBraid, cX11_isNoBraid, some .boolean, RX11) zps239 zxi239 20 = true := by decide +kernel
set_option maxRecDepth 100000 in
theorem zhc239 : zheadC 239 (zxi239, 1, 1, 11, 239, 0, 0, 2, 0) (yX11_isNoBraid, cX11_isNoBraid, some .boolean, RX11) 0 1013 7065 146 = true := by decide +kernel
set_option maxRecDepth 100000 in
theorem zh239 : zheadB 239 (zxi239, 1, 1, 11, 239, 0, 0, 2, 0) (yX11_isNoBraid, cX11_isNoBraid, some .boolean, RX11) 0 7066 1013 7065 146 = true := zheadB_of rfl zhc239
theorem zm239 : zOK 239 (zxi239, 1, 1, 11, 239, 0, 0, 2, 0) (yX11_isNoBraid, cX11_isNoBraid, some .boolean, RX11) := zOK_of2 (len := 20) zh239 zr239 (fun pc h => zguard h)
def zps240 : List (Nat × Nat) := [(4, 6064), (13, 6064), (24, 6064), (55, 7015)]
set_option maxRecDepth 100000 in
theorem zr240 : zrowsB (yX11_joinsWord, cX11_joinsWord, none, RX11) zps240 zxi240 65 = true := by decide +kernel
set_option maxRecDepth 100000 in
theorem zhc240 : zheadC 240 (zxi240, 3, 5, 11, 240, 0, 0, 0, 0) (yX11_joinsWord, cX11_joinsWord, none, RX11) 0 1013 7013 133 = true := by decide +kernel
set_option maxRecDepth 100000 in
theorem zh240 : zheadB 240 (zxi240, 3, 5, 11, 240, 0, 0, 0, 0) (yX11_joinsWord, cX11_joinsWord, none, RX11) 0 7014 1013 7013 133 = true := zheadB_of rfl zhc240
theorem zm240 : zOK 240 (zxi240, 3, 5, 11, 240, 0, 0, 0, 0) (yX11_joinsWord, cX11_joinsWord, none, RX11) := zOK_of2 (len := 65) zh240 zr240 (fun pc h => zguard h)
def zps241 : List (Nat × Nat) := [(4, 6064), (14, 6064), (23, 7015)]
set_option maxRecDepth 100000 in
theorem zr241 : zrowsB (yX11_joinsWished, cX11_joinsWished, none, RX11) zps241 zxi241 33 = true := by decide +kernel
set_option maxRecDepth 100000 in
theorem zhc241 : zheadC 241 (zxi241, 1, 2, 11, 241, 0, 0, 0, 0) (yX11_joinsWished, cX11_joinsWished, none, RX11) 0 1013 7093 153 = true := by decide +kernel
set_option maxRecDepth 100000 in
theorem zh241 : zheadB 241 (zxi241, 1, 2, 11, 241, 0, 0, 0, 0) (yX11_joinsWished, cX11_joinsWished, none, RX11) 0 7094 1013 7093 153 = true := zheadB_of rfl zhc241
theorem zm241 : zOK 241 (zxi241, 1, 2, 11, 241, 0, 0, 0, 0) (yX11_joinsWished, cX11_joinsWished, none, RX11) := zOK_of2 (len := 33) zh241 zr241 (fun pc h => zguard h)
def zps242 : List (Nat × Nat) := [(1, 6064), (16, 6064), (26, 7015)]
set_option maxRecDepth 100000 in
theorem zr242 : zrowsB (yX11_unjoinsWished, cX11_unjoinsWished, none, RX11) zps242 zxi242 36 = true := by decide +kernel
set_option maxRecDepth 100000 in
theorem zhc242 : zheadC 242 (zxi242, 1, 2, 11, 242, 0, 0, 0, 0) (yX11_unjoinsWished, cX11_unjoinsWished, none, RX11) 0 1013 7077 149 = true := by decide +kernel
set_option maxRecDepth 100000 in
theorem zh242 : zheadB 242 (zxi242, 1, 2, 11, 242, 0, 0, 0, 0) (yX11_unjoinsWished, cX11_unjoinsWished, none, RX11) 0 7078 1013 7077 149 = true := zheadB_of rfl zhc242
theorem zm242 : zOK 242 (zxi242, 1, 2, 11, 242, 0, 0, 0, 0) (yX11_unjoinsWished, cX11_unjoinsWished, none, RX11) := zOK_of2 (len := 36) zh242 zr242 (fun pc h => zguard h)
def zps243 : List (Nat × Nat) := [(1, 6064), (16, 6064), (26, 7015)]
set_option maxRecDepth 100000 in
theorem zr243 : zrowsB (yX11_unjoinsWord, cX11_unjoinsWord, none, RX11) zps243 zxi243 36 = true := by decide +kernel
set_option maxRecDepth 100000 in
theorem zhc243 : zheadC 243 (zxi243, 1, 2, 11, 243, 0, 0, 0, 0) (yX11_unjoinsWord, cX11_unjoinsWord, none, RX11) 0 1013 7085 151 = true := by decide +kernel
set_option maxRecDepth 100000 in
theorem zh243 : zheadB 243 (zxi243, 1, 2, 11, 243, 0, 0, 0, 0) (yX11_unjoinsWord, cX11_unjoinsWord, none, RX11) 0 7086 1013 7085 151 = true := zheadB_of rfl zhc243
theorem zm243 : zOK 243 (zxi243, 1, 2, 11, 243, 0, 0, 0, 0) (yX11_unjoinsWord, cX11_unjoinsWord, none, RX11) := zOK_of2 (len := 36) zh243 zr243 (fun pc h => zguard h)
def zps244 : List (Nat × Nat) := [(4, 6064), (13, 6064), (35, 6064)]
set_option maxRecDepth 100000 in
theorem zr244 : zrowsB (yX11_canBeWished, cX11_canBeWished, some .boolean, RX11) zps244 zxi244 53 = true := by decide +kernel
set_option maxRecDepth 100000 in
theorem zhc244 : zheadC 244 (zxi244, 1, 3, 11, 244, 0, 0, 2, 0) (yX11_canBeWished, cX11_canBeWished, some .boolean, RX11) 0 1013 7073 148 = true := by decide +kernel
set_option maxRecDepth 100000 in
theorem zh244 : zheadB 244 (zxi244, 1, 3, 11, 244, 0, 0, 2, 0) (yX11_canBeWished, cX11_canBeWished, some .boolean, RX11) 0 7074 1013 7073 148 = true := zheadB_of rfl zhc244
theorem zm244 : zOK 244 (zxi244, 1, 3, 11, 244, 0, 0, 2, 0) (yX11_canBeWished, cX11_canBeWished, some .boolean, RX11) := zOK_of2 (len := 53) zh244 zr244 (fun pc h => zguard h)
def zps245 : List (Nat × Nat) := [(1, 7071), (10, 7007), (23, 7011), (33, 7075), (37, 7063)]
set_option maxRecDepth 100000 in
theorem zr245 : zrowsB (yX11_isWishedAgain, cX11_isWishedAgain, some .boolean, RX11) zps245 zxi245 41 = true := by decide +kernel
set_option maxRecDepth 100000 in
theorem zhc245 : zheadC 245 (zxi245, 2, 3, 11, 245, 0, 0, 2, 0) (yX11_isWishedAgain, cX11_isWishedAgain, some .boolean, RX11) 0 1013 7069 147 = true := by decide +kernel
set_option maxRecDepth 100000 in
theorem zh245 : zheadB 245 (zxi245, 2, 3, 11, 245, 0, 0, 2, 0) (yX11_isWishedAgain, cX11_isWishedAgain, some .boolean, RX11) 0 7070 1013 7069 147 = true := zheadB_of rfl zhc245
theorem zm245 : zOK 245 (zxi245, 2, 3, 11, 245, 0, 0, 2, 0) (yX11_isWishedAgain, cX11_isWishedAgain, some .boolean, RX11) := zOK_of2 (len := 41) zh245 zr245 (fun pc h => zguard h)
def zps246 : List (Nat × Nat) := [(1, 7007), (7, 7011), (11, 7083), (15, 7063)]
set_option maxRecDepth 100000 in
theorem zr246 : zrowsB (yX11_isItselfSo, cX11_isItselfSo, some .boolean, RX11) zps246 zxi246 19 = true := by decide +kernel
set_option maxRecDepth 100000 in
theorem zhc246 : zheadC 246 (zxi246, 3, 3, 11, 246, 0, 0, 2, 0) (yX11_isItselfSo, cX11_isItselfSo, some .boolean, RX11) 0 1013 7081 150 = true := by decide +kernel
set_option maxRecDepth 100000 in
theorem zh246 : zheadB 246 (zxi246, 3, 3, 11, 246, 0, 0, 2, 0) (yX11_isItselfSo, cX11_isItselfSo, some .boolean, RX11) 0 7082 1013 7081 150 = true := zheadB_of rfl zhc246
theorem zm246 : zOK 246 (zxi246, 3, 3, 11, 246, 0, 0, 2, 0) (yX11_isItselfSo, cX11_isItselfSo, some .boolean, RX11) := zOK_of2 (len := 19) zh246 zr246 (fun pc h => zguard h)
def zps247 : List (Nat × Nat) := [(1, 7071), (10, 7007), (16, 7011), (20, 7091), (24, 7083), (28, 7075), (32, 7063)]
set_option maxRecDepth 100000 in
theorem zr247 : zrowsB (yX11_goEitherWay, cX11_goEitherWay, some .boolean, RX11) zps247 zxi247 36 = true := by decide +kernel
set_option maxRecDepth 100000 in
theorem zhc247 : zheadC 247 (zxi247, 1, 1, 11, 247, 0, 0, 2, 0) (yX11_goEitherWay, cX11_goEitherWay, some .boolean, RX11) 0 1013 7089 152 = true := by decide +kernel
set_option maxRecDepth 100000 in
theorem zh247 : zheadB 247 (zxi247, 1, 1, 11, 247, 0, 0, 2, 0) (yX11_goEitherWay, cX11_goEitherWay, some .boolean, RX11) 0 7090 1013 7089 152 = true := zheadB_of rfl zhc247
theorem zm247 : zOK 247 (zxi247, 1, 1, 11, 247, 0, 0, 2, 0) (yX11_goEitherWay, cX11_goEitherWay, some .boolean, RX11) := zOK_of2 (len := 36) zh247 zr247 (fun pc h => zguard h)
def zps248 : List (Nat × Nat) := [(9, 6087)]
set_option maxRecDepth 100000 in
theorem zr248 : zrowsB (yX11_beginsThreads, cX11_beginsThreads, none, RX11) zps248 zxi248 22 = true := by decide +kernel
set_option maxRecDepth 100000 in
theorem zhc248 : zheadC 248 (zxi248, 1, 2, 11, 248, 0, 0, 0, 0) (yX11_beginsThreads, cX11_beginsThreads, none, RX11) 0 1013 6237 129 = true := by decide +kernel
set_option maxRecDepth 100000 in
theorem zh248 : zheadB 248 (zxi248, 1, 2, 11, 248, 0, 0, 0, 0) (yX11_beginsThreads, cX11_beginsThreads, none, RX11) 0 6238 1013 6237 129 = true := zheadB_of rfl zhc248
theorem zm248 : zOK 248 (zxi248, 1, 2, 11, 248, 0, 0, 0, 0) (yX11_beginsThreads, cX11_beginsThreads, none, RX11) := zOK_of2 (len := 22) zh248 zr248 (fun pc h => zguard h)
def zps249 : List (Nat × Nat) := [(1, 6064)]
set_option maxRecDepth 100000 in
theorem zr249 : zrowsB (yX11_placeOf, cX11_placeOf, some .int, RX11) zps249 zxi249 25 = true := by decide +kernel
set_option maxRecDepth 100000 in
theorem zhc249 : zheadC 249 (zxi249, 2, 3, 11, 249, 0, 0, 1, 0) (yX11_placeOf, cX11_placeOf, some .int, RX11) 0 1013 7001 130 = true := by decide +kernel
set_option maxRecDepth 100000 in
theorem zh249 : zheadB 249 (zxi249, 2, 3, 11, 249, 0, 0, 1, 0) (yX11_placeOf, cX11_placeOf, some .int, RX11) 0 7002 1013 7001 130 = true := zheadB_of rfl zhc249
theorem zm249 : zOK 249 (zxi249, 2, 3, 11, 249, 0, 0, 1, 0) (yX11_placeOf, cX11_placeOf, some .int, RX11) := zOK_of2 (len := 25) zh249 zr249 (fun pc h => zguard h)
def zps250 : List (Nat × Nat) := [(1, 6087), (8, 6087), (13, 6087), (22, 6087)]
set_option maxRecDepth 100000 in
theorem zr250 : zrowsB (yX11_crosses, cX11_crosses, none, RX11) zps250 zxi250 31 = true := by decide +kernel
set_option maxRecDepth 100000 in
theorem zhc250 : zheadC 250 (zxi250, 2, 3, 11, 250, 0, 0, 0, 0) (yX11_crosses, cX11_crosses, none, RX11) 0 1013 7005 131 = true := by decide +kernel
set_option maxRecDepth 100000 in
theorem zh250 : zheadB 250 (zxi250, 2, 3, 11, 250, 0, 0, 0, 0) (yX11_crosses, cX11_crosses, none, RX11) 0 7006 1013 7005 131 = true := zheadB_of rfl zhc250
theorem zm250 : zOK 250 (zxi250, 2, 3, 11, 250, 0, 0, 0, 0) (yX11_crosses, cX11_crosses, none, RX11) := zOK_of2 (len := 31) zh250 zr250 (fun pc h => zguard h)
def zps251 : List (Nat × Nat) := [(1, 6235), (8, 6064), (19, 6239), (22, 7003), (39, 6064), (82, 6087)]
set_option maxRecDepth 100000 in
theorem zr251 : zrowsB (yX11_loops, cX11_loops, some .int, RX11) zps251 zxi251 101 = true := by decide +kernel
set_option maxRecDepth 100000 in
theorem zhc251 : zheadC 251 (zxi251, 1, 5, 11, 251, 0, 0, 1, 0) (yX11_loops, cX11_loops, some .int, RX11) 0 1013 6233 128 = true := by decide +kernel
set_option maxRecDepth 100000 in
theorem zh251 : zheadB 251 (zxi251, 1, 5, 11, 251, 0, 0, 1, 0) (yX11_loops, cX11_loops, some .int, RX11) 0 6234 1013 6233 128 = true := zheadB_of rfl zhc251
theorem zm251 : zOK 251 (zxi251, 1, 5, 11, 251, 0, 0, 1, 0) (yX11_loops, cX11_loops, some .int, RX11) := zOK_of2 (len := 101) zh251 zr251 (fun pc h => zguard h)
def zps252 : List (Nat × Nat) := [(6, 6064), (16, 6064)]
set_option maxRecDepth 100000 in
theorem zr252 : zrowsB (yX11_twist, cX11_twist, some .int, RX11) zps252 zxi252 43 = true := by decide +kernel
set_option maxRecDepth 100000 in
theorem zhc252 : zheadC 252 (zxi252, 1, 3, 11, 252, 0, 0, 1, 0) (yX11_twist, cX11_twist, some .int, RX11) 0 1013 6229 127 = true := by decide +kernel
set_option maxRecDepth 100000 in
theorem zh252 : zheadB 252 (zxi252, 1, 3, 11, 252, 0, 0, 1, 0) (yX11_twist, cX11_twist, some .int, RX11) 0 6230 1013 6229 127 = true := zheadB_of rfl zhc252
theorem zm252 : zOK 252 (zxi252, 1, 3, 11, 252, 0, 0, 1, 0) (yX11_twist, cX11_twist, some .int, RX11) := zOK_of2 (len := 43) zh252 zr252 (fun pc h => zguard h)
def zps253 : List (Nat × Nat) := [(5, 6220), (27, 6064), (40, 6223), (58, 6227), (65, 6231), (77, 7007), (83, 7011), (87, 7063), (101, 7067), (116, 7079), (130, 7079), (137, 7087)]
set_option maxRecDepth 100000 in
theorem zr253 : zrowsB (yX11_braid, cX11_braid, some .int, RX11) zps253 zxi253 151 = true := by decide +kernel
set_option maxRecDepth 100000 in
theorem zhc253 : zheadC 253 (zxi253, 2, 3, 11, 253, 0, 0, 1, 0) (yX11_braid, cX11_braid, some .int, RX11) 0 1013 6217 6218 = true := by decide +kernel
set_option maxRecDepth 100000 in
theorem zh253 : zheadB 253 (zxi253, 2, 3, 11, 253, 0, 0, 1, 0) (yX11_braid, cX11_braid, some .int, RX11) 0 6219 1013 6217 6218 = true := zheadB_of rfl zhc253
theorem zm253 : zOK 253 (zxi253, 2, 3, 11, 253, 0, 0, 1, 0) (yX11_braid, cX11_braid, some .int, RX11) := zOK_of2 (len := 151) zh253 zr253 (fun pc h => zguard h)
def zps254 : List (Nat × Nat) := [(3, 6064), (8, 6220)]
set_option maxRecDepth 100000 in
theorem zr254 : zrowsB (yX11_isPlace, cX11_isPlace, some .boolean, RX11) zps254 zxi254 12 = true := by decide +kernel
set_option maxRecDepth 100000 in
theorem zhc254 : zheadC 254 (zxi254, 2, 2, 11, 254, 0, 0, 2, 0) (yX11_isPlace, cX11_isPlace, some .boolean, RX11) 0 1013 7101 154 = true := by decide +kernel
set_option maxRecDepth 100000 in
theorem zh254 : zheadB 254 (zxi254, 2, 2, 11, 254, 0, 0, 2, 0) (yX11_isPlace, cX11_isPlace, some .boolean, RX11) 0 7102 1013 7101 154 = true := zheadB_of rfl zhc254
theorem zm254 : zOK 254 (zxi254, 2, 2, 11, 254, 0, 0, 2, 0) (yX11_isPlace, cX11_isPlace, some .boolean, RX11) := zOK_of2 (len := 12) zh254 zr254 (fun pc h => zguard h)
def zps255 : List (Nat × Nat) := [(3, 7099), (14, 6223), (30, 6064), (40, 6239)]
set_option maxRecDepth 100000 in
theorem zr255 : zrowsB (yX11_ends, cX11_ends, some .int, RX11) zps255 zxi255 83 = true := by decide +kernel
set_option maxRecDepth 100000 in
theorem zhc255 : zheadC 255 (zxi255, 2, 5, 11, 255, 0, 0, 1, 0) (yX11_ends, cX11_ends, some .int, RX11) 0 1013 7096 7097 = true := by decide +kernel
set_option maxRecDepth 100000 in
theorem zh255 : zheadB 255 (zxi255, 2, 5, 11, 255, 0, 0, 1, 0) (yX11_ends, cX11_ends, some .int, RX11) 0 7098 1013 7096 7097 = true := zheadB_of rfl zhc255
theorem zm255 : zOK 255 (zxi255, 2, 5, 11, 255, 0, 0, 1, 0) (yX11_ends, cX11_ends, some .int, RX11) := zOK_of2 (len := 83) zh255 zr255 (fun pc h => zguard h)
def zps256 : List (Nat × Nat) := [(3, 7099), (11, 7099), (31, 6223), (40, 6235), (51, 6064), (62, 6239), (68, 6087), (79, 6087), (117, 6064), (140, 7003)]
set_option maxRecDepth 100000 in
theorem zr256 : zrowsB (yX11_pair, cX11_pair, some .int, RX11) zps256 zxi256 151 = true := by decide +kernel
set_option maxRecDepth 100000 in
theorem zhc256 : zheadC 256 (zxi256, 3, 8, 11, 256, 0, 0, 1, 0) (yX11_pair, cX11_pair, some .int, RX11) 0 1013 7104 7105 = true := by decide +kernel
set_option maxRecDepth 100000 in
theorem zh256 : zheadB 256 (zxi256, 3, 8, 11, 256, 0, 0, 1, 0) (yX11_pair, cX11_pair, some .int, RX11) 0 7106 1013 7104 7105 = true := zheadB_of rfl zhc256
theorem zm256 : zOK 256 (zxi256, 3, 8, 11, 256, 0, 0, 1, 0) (yX11_pair, cX11_pair, some .int, RX11) := zOK_of2 (len := 151) zh256 zr256 (fun pc h => zguard h)
def zps257 : List (Nat × Nat) := [(3, 7099), (12, 6220), (23, 6223), (53, 6064), (64, 6239), (103, 6064)]
set_option maxRecDepth 100000 in
theorem zr257 : zrowsB (yX11_thread, cX11_thread, some .int, RX11) zps257 zxi257 218 = true := by decide +kernel
set_option maxRecDepth 100000 in
theorem zhc257 : zheadC 257 (zxi257, 3, 10, 11, 257, 0, 0, 1, 0) (yX11_thread, cX11_thread, some .int, RX11) 0 1013 7108 7109 = true := by decide +kernel
set_option maxRecDepth 100000 in
theorem zh257 : zheadB 257 (zxi257, 3, 10, 11, 257, 0, 0, 1, 0) (yX11_thread, cX11_thread, some .int, RX11) 0 7110 1013 7108 7109 = true := zheadB_of rfl zhc257
theorem zm257 : zOK 257 (zxi257, 3, 10, 11, 257, 0, 0, 1, 0) (yX11_thread, cX11_thread, some .int, RX11) := zOK_of2 (len := 218) zh257 zr257 (fun pc h => zguard h)
def zps258 : List (Nat × Nat) := [(4, 6220), (15, 6064), (28, 6223), (38, 7067)]
set_option maxRecDepth 100000 in
theorem zr258 : zrowsB (yX11_times, cX11_times, some .int, RX11) zps258 zxi258 50 = true := by decide +kernel
set_option maxRecDepth 100000 in
theorem zhc258 : zheadC 258 (zxi258, 2, 2, 11, 258, 0, 0, 1, 0) (yX11_times, cX11_times, some .int, RX11) 0 1013 7112 7113 = true := by decide +kernel
set_option maxRecDepth 100000 in
theorem zh258 : zheadB 258 (zxi258, 2, 2, 11, 258, 0, 0, 1, 0) (yX11_times, cX11_times, some .int, RX11) 0 7114 1013 7112 7113 = true := zheadB_of rfl zhc258
theorem zm258 : zOK 258 (zxi258, 2, 2, 11, 258, 0, 0, 1, 0) (yX11_times, cX11_times, some .int, RX11) := zOK_of2 (len := 50) zh258 zr258 (fun pc h => zguard h)
def zps259 : List (Nat × Nat) := [(11, 6064), (24, 6223), (31, 6064)]
set_option maxRecDepth 100000 in
theorem zr259 : zrowsB (yX11_letter, cX11_letter, some .int, RX11) zps259 zxi259 45 = true := by decide +kernel
set_option maxRecDepth 100000 in
theorem zhc259 : zheadC 259 (zxi259, 2, 2, 11, 259, 0, 0, 1, 0) (yX11_letter, cX11_letter, some .int, RX11) 0 1013 7116 7117 = true := by decide +kernel
set_option maxRecDepth 100000 in
theorem zh259 : zheadB 259 (zxi259, 2, 2, 11, 259, 0, 0, 1, 0) (yX11_letter, cX11_letter, some .int, RX11) 0 7118 1013 7116 7117 = true := zheadB_of rfl zhc259
theorem zm259 : zOK 259 (zxi259, 2, 2, 11, 259, 0, 0, 1, 0) (yX11_letter, cX11_letter, some .int, RX11) := zOK_of2 (len := 45) zh259 zr259 (fun pc h => zguard h)
def zps260 : List (Nat × Nat) := [(11, 6064), (24, 6223), (31, 6064)]
set_option maxRecDepth 100000 in
theorem zr260 : zrowsB (yX11_wished, cX11_wished, some .int, RX11) zps260 zxi260 45 = true := by decide +kernel
set_option maxRecDepth 100000 in
theorem zhc260 : zheadC 260 (zxi260, 2, 2, 11, 260, 0, 0, 1, 0) (yX11_wished, cX11_wished, some .int, RX11) 0 1013 7120 7121 = true := by decide +kernel
set_option maxRecDepth 100000 in
theorem zh260 : zheadB 260 (zxi260, 2, 2, 11, 260, 0, 0, 1, 0) (yX11_wished, cX11_wished, some .int, RX11) 0 7122 1013 7120 7121 = true := zheadB_of rfl zhc260
theorem zm260 : zOK 260 (zxi260, 2, 2, 11, 260, 0, 0, 1, 0) (yX11_wished, cX11_wished, some .int, RX11) := zOK_of2 (len := 45) zh260 zr260 (fun pc h => zguard h)
def zps261 : List (Nat × Nat) := [(6, 7127), (14, 6064)]
set_option maxRecDepth 100000 in
theorem zr261 : zrowsB (yX11_counted, cX11_counted, some .int, RX11) zps261 zxi261 39 = true := by decide +kernel
set_option maxRecDepth 100000 in
theorem zhc261 : zheadC 261 (zxi261, 2, 4, 11, 261, 0, 0, 1, 0) (yX11_counted, cX11_counted, some .int, RX11) 0 1013 7141 158 = true := by decide +kernel
set_option maxRecDepth 100000 in
theorem zh261 : zheadB 261 (zxi261, 2, 4, 11, 261, 0, 0, 1, 0) (yX11_counted, cX11_counted, some .int, RX11) 0 7142 1013 7141 158 = true := zheadB_of rfl zhc261
theorem zm261 : zOK 261 (zxi261, 2, 4, 11, 261, 0, 0, 1, 0) (yX11_counted, cX11_counted, some .int, RX11) := zOK_of2 (len := 39) zh261 zr261 (fun pc h => zguard h)
def zps262 : List (Nat × Nat) := [(5, 6220), (16, 6223), (85, 6064), (94, 7127), (99, 7135), (104, 6064), (111, 6064), (118, 6064), (127, 7139), (134, 7139), (139, 7143), (144, 6064), (152, 6064)]
set_option maxRecDepth 100000 in
theorem zr262 : zrowsB (yX11_many, cX11_many, some .int, RX11) zps262 zxi262 158 = true := by decide +kernel
set_option maxRecDepth 100000 in
theorem zhc262 : zheadC 262 (zxi262, 2, 2, 11, 262, 0, 0, 1, 0) (yX11_many, cX11_many, some .int, RX11) 0 1013 7124 7125 = true := by decide +kernel
set_option maxRecDepth 100000 in
theorem zh262 : zheadB 262 (zxi262, 2, 2, 11, 262, 0, 0, 1, 0) (yX11_many, cX11_many, some .int, RX11) 0 7126 1013 7124 7125 = true := zheadB_of rfl zhc262
theorem zm262 : zOK 262 (zxi262, 2, 2, 11, 262, 0, 0, 1, 0) (yX11_many, cX11_many, some .int, RX11) := zOK_of2 (len := 158) zh262 zr262 (fun pc h => zguard h)
def zps263 : List (Nat × Nat) := [(4, 6220), (16, 7157), (27, 6223), (73, 6064), (85, 6064), (90, 7161), (103, 6064), (113, 6064), (124, 7173), (130, 7177)]
set_option maxRecDepth 100000 in
theorem zr263 : zrowsB (yX11_gate, cX11_gate, some .int, RX11) zps263 zxi263 134 = true := by decide +kernel
set_option maxRecDepth 100000 in
theorem zhc263 : zheadC 263 (zxi263, 3, 3, 11, 263, 0, 0, 1, 0) (yX11_gate, cX11_gate, some .int, RX11) 0 1013 7154 7155 = true := by decide +kernel
set_option maxRecDepth 100000 in
theorem zh263 : zheadB 263 (zxi263, 3, 3, 11, 263, 0, 0, 1, 0) (yX11_gate, cX11_gate, some .int, RX11) 0 7156 1013 7154 7155 = true := zheadB_of rfl zhc263
theorem zm263 : zOK 263 (zxi263, 3, 3, 11, 263, 0, 0, 1, 0) (yX11_gate, cX11_gate, some .int, RX11) := zOK_of2 (len := 134) zh263 zr263 (fun pc h => zguard h)
def zps264 : List (Nat × Nat) := [(11, 7157), (23, 6064), (39, 6223), (48, 6064)]
set_option maxRecDepth 100000 in
theorem zr264 : zrowsB (yX11_bit, cX11_bit, some .int, RX11) zps264 zxi264 61 = true := by decide +kernel
set_option maxRecDepth 100000 in
theorem zhc264 : zheadC 264 (zxi264, 3, 3, 11, 264, 0, 0, 1, 0) (yX11_bit, cX11_bit, some .int, RX11) 0 1013 7182 7183 = true := by decide +kernel
set_option maxRecDepth 100000 in
theorem zh264 : zheadB 264 (zxi264, 3, 3, 11, 264, 0, 0, 1, 0) (yX11_bit, cX11_bit, some .int, RX11) 0 7184 1013 7182 7183 = true := zheadB_of rfl zhc264
theorem zm264 : zOK 264 (zxi264, 3, 3, 11, 264, 0, 0, 1, 0) (yX11_bit, cX11_bit, some .int, RX11) := zOK_of2 (len := 61) zh264 zr264 (fun pc h => zguard h)
def zps265 : List (Nat × Nat) := [(6, 6064), (17, 6064), (27, 6064), (36, 7205)]
set_option maxRecDepth 100000 in
theorem zr265 : zrowsB (yX11_standing, cX11_standing, some .int, RX11) zps265 zxi265 57 = true := by decide +kernel
set_option maxRecDepth 100000 in
theorem zhc265 : zheadC 265 (zxi265, 2, 4, 11, 265, 0, 0, 1, 0) (yX11_standing, cX11_standing, some .int, RX11) 0 1013 7203 169 = true := by decide +kernel
set_option maxRecDepth 100000 in
theorem zh265 : zheadB 265 (zxi265, 2, 4, 11, 265, 0, 0, 1, 0) (yX11_standing, cX11_standing, some .int, RX11) 0 7204 1013 7203 169 = true := zheadB_of rfl zhc265
theorem zm265 : zOK 265 (zxi265, 2, 4, 11, 265, 0, 0, 1, 0) (yX11_standing, cX11_standing, some .int, RX11) := zOK_of2 (len := 57) zh265 zr265 (fun pc h => zguard h)
def zps266 : List (Nat × Nat) := [(4, 6220), (16, 7189), (27, 6223), (73, 6064), (85, 6064), (94, 7193), (100, 6064), (109, 7197), (114, 6064), (126, 7201), (131, 6064)]
set_option maxRecDepth 100000 in
theorem zr266 : zrowsB (yX11_bobbin, cX11_bobbin, some .int, RX11) zps266 zxi266 141 = true := by decide +kernel
set_option maxRecDepth 100000 in
theorem zhc266 : zheadC 266 (zxi266, 3, 3, 11, 266, 0, 0, 1, 0) (yX11_bobbin, cX11_bobbin, some .int, RX11) 0 1013 7186 7187 = true := by decide +kernel
set_option maxRecDepth 100000 in
theorem zh266 : zheadB 266 (zxi266, 3, 3, 11, 266, 0, 0, 1, 0) (yX11_bobbin, cX11_bobbin, some .int, RX11) 0 7188 1013 7186 7187 = true := zheadB_of rfl zhc266
theorem zm266 : zOK 266 (zxi266, 3, 3, 11, 266, 0, 0, 1, 0) (yX11_bobbin, cX11_bobbin, some .int, RX11) := zOK_of2 (len := 141) zh266 zr266 (fun pc h => zguard h)
def zps267 : List (Nat × Nat) := [(4, 6064), (13, 6064)]
set_option maxRecDepth 100000 in
theorem zr267 : zrowsB (yX11_bobbinIn, cX11_bobbinIn, some .int, RX11) zps267 zxi267 34 = true := by decide +kernel
set_option maxRecDepth 100000 in
theorem zhc267 : zheadC 267 (zxi267, 3, 4, 11, 267, 0, 0, 1, 0) (yX11_bobbinIn, cX11_bobbinIn, some .int, RX11) 0 1013 7219 172 = true := by decide +kernel
set_option maxRecDepth 100000 in
theorem zh267 : zheadB 267 (zxi267, 3, 4, 11, 267, 0, 0, 1, 0) (yX11_bobbinIn, cX11_bobbinIn, some .int, RX11) 0 7220 1013 7219 172 = true := zheadB_of rfl zhc267
theorem zm267 : zOK 267 (zxi267, 3, 4, 11, 267, 0, 0, 1, 0) (yX11_bobbinIn, cX11_bobbinIn, some .int, RX11) := zOK_of2 (len := 34) zh267 zr267 (fun pc h => zguard h)
def zps268 : List (Nat × Nat) := [(3, 7213), (14, 6223), (27, 7217), (37, 7221)]
set_option maxRecDepth 100000 in
theorem zr268 : zrowsB (yX11_at, cX11_at, some .int, RX11) zps268 zxi268 45 = true := by decide +kernel
set_option maxRecDepth 100000 in
theorem zhc268 : zheadC 268 (zxi268, 2, 3, 11, 268, 0, 0, 1, 0) (yX11_at, cX11_at, some .int, RX11) 0 1013 7210 7211 = true := by decide +kernel
set_option maxRecDepth 100000 in
theorem zh268 : zheadB 268 (zxi268, 2, 3, 11, 268, 0, 0, 1, 0) (yX11_at, cX11_at, some .int, RX11) 0 7212 1013 7210 7211 = true := zheadB_of rfl zhc268
theorem zm268 : zOK 268 (zxi268, 2, 3, 11, 268, 0, 0, 1, 0) (yX11_at, cX11_at, some .int, RX11) := zOK_of2 (len := 45) zh268 zr268 (fun pc h => zguard h)
def zps269 : List (Nat × Nat) := [(3, 7213), (14, 6223), (24, 7229), (34, 7221)]
set_option maxRecDepth 100000 in
theorem zr269 : zrowsB (yX11_faces, cX11_faces, some .int, RX11) zps269 zxi269 42 = true := by decide +kernel
set_option maxRecDepth 100000 in
theorem zhc269 : zheadC 269 (zxi269, 2, 3, 11, 269, 0, 0, 1, 0) (yX11_faces, cX11_faces, some .int, RX11) 0 1013 7226 7227 = true := by decide +kernel
set_option maxRecDepth 100000 in
theorem zh269 : zheadB 269 (zxi269, 2, 3, 11, 269, 0, 0, 1, 0) (yX11_faces, cX11_faces, some .int, RX11) 0 7228 1013 7226 7227 = true := zheadB_of rfl zhc269
theorem zm269 : zOK 269 (zxi269, 2, 3, 11, 269, 0, 0, 1, 0) (yX11_faces, cX11_faces, some .int, RX11) := zOK_of2 (len := 42) zh269 zr269 (fun pc h => zguard h)
