def zps270 : List (Nat × Nat) := [(4, 6220), (26, 7157), (37, 6064), (50, 6064), (67, 6223), (76, 6064), (86, 6064)]
set_option maxRecDepth 100000 in
theorem zr270 : zrowsB (yX11_program, cX11_program, some .int, RX11) zps270 zxi270 97 = true := by decide +kernel
set_option maxRecDepth 100000 in
theorem zhc270 : zheadC 270 (zxi270, 4, 4, 11, 270, 0, 0, 1, 0) (yX11_program, cX11_program, some .int, RX11) 0 1013 7238 7239 = true := by decide +kernel
set_option maxRecDepth 100000 in
theorem zh270 : zheadB 270 (zxi270, 4, 4, 11, 270, 0, 0, 1, 0) (yX11_program, cX11_program, some .int, RX11) 0 8000 1013 7238 7239 = true := zheadB_of rfl zhc270
theorem zm270 : zOK 270 (zxi270, 4, 4, 11, 270, 0, 0, 1, 0) (yX11_program, cX11_program, some .int, RX11) := zOK_of2 (len := 97) zh270 zr270 (fun pc h => zguard h)
def zps271 : List (Nat × Nat) := [(4, 6220), (16, 7157), (27, 6064), (44, 6223), (53, 6064), (63, 6064)]
set_option maxRecDepth 100000 in
theorem zr271 : zrowsB (yX11_stick, cX11_stick, some .int, RX11) zps271 zxi271 74 = true := by decide +kernel
set_option maxRecDepth 100000 in
theorem zhc271 : zheadC 271 (zxi271, 3, 4, 11, 271, 0, 0, 1, 0) (yX11_stick, cX11_stick, some .int, RX11) 0 1013 8002 8003 = true := by decide +kernel
set_option maxRecDepth 100000 in
theorem zh271 : zheadB 271 (zxi271, 3, 4, 11, 271, 0, 0, 1, 0) (yX11_stick, cX11_stick, some .int, RX11) 0 8004 1013 8002 8003 = true := zheadB_of rfl zhc271
theorem zm271 : zOK 271 (zxi271, 3, 4, 11, 271, 0, 0, 1, 0) (yX11_stick, cX11_stick, some .int, RX11) := zOK_of2 (len := 74) zh271 zr271 (fun pc h => zguard h)
def zps272 : List (Nat × Nat) := [(3, 7157), (14, 6064), (46, 7139), (59, 6223), (68, 6064), (88, 7139)]
set_option maxRecDepth 100000 in
theorem zr272 : zrowsB (yX11_free, cX11_free, some .int, RX11) zps272 zxi272 92 = true := by decide +kernel
set_option maxRecDepth 100000 in
theorem zhc272 : zheadC 272 (zxi272, 3, 3, 11, 272, 0, 0, 1, 0) (yX11_free, cX11_free, some .int, RX11) 0 1013 8006 8007 = true := by decide +kernel
set_option maxRecDepth 100000 in
theorem zh272 : zheadB 272 (zxi272, 3, 3, 11, 272, 0, 0, 1, 0) (yX11_free, cX11_free, some .int, RX11) 0 8008 1013 8006 8007 = true := zheadB_of rfl zhc272
theorem zm272 : zOK 272 (zxi272, 3, 3, 11, 272, 0, 0, 1, 0) (yX11_free, cX11_free, some .int, RX11) := zOK_of2 (len := 92) zh272 zr272 (fun pc h => zguard h)
def zps273 : List (Nat × Nat) := [(5, 7217), (13, 7229), (25, 7229), (28, 7217)]
set_option maxRecDepth 100000 in
theorem zr273 : zrowsB (yX11_isTakenStart, cX11_isTakenStart, some .boolean, RX11) zps273 zxi273 40 = true := by decide +kernel
set_option maxRecDepth 100000 in
theorem zhc273 : zheadC 273 (zxi273, 2, 2, 11, 273, 0, 0, 2, 0) (yX11_isTakenStart, cX11_isTakenStart, some .boolean, RX11) 0 1013 8015 176 = true := by decide +kernel
set_option maxRecDepth 100000 in
theorem zh273 : zheadB 273 (zxi273, 2, 2, 11, 273, 0, 0, 2, 0) (yX11_isTakenStart, cX11_isTakenStart, some .boolean, RX11) 0 8016 1013 8015 176 = true := zheadB_of rfl zhc273
theorem zm273 : zOK 273 (zxi273, 2, 2, 11, 273, 0, 0, 2, 0) (yX11_isTakenStart, cX11_isTakenStart, some .boolean, RX11) := zOK_of2 (len := 40) zh273 zr273 (fun pc h => zguard h)
def zps274 : List (Nat × Nat) := [(1, 6064), (8, 6064), (19, 6064), (30, 6064), (41, 6064)]
set_option maxRecDepth 100000 in
theorem zr274 : zrowsB (yX11_comesNew, cX11_comesNew, some .int, RX11) zps274 zxi274 52 = true := by decide +kernel
set_option maxRecDepth 100000 in
theorem zhc274 : zheadC 274 (zxi274, 2, 3, 11, 274, 0, 0, 1, 0) (yX11_comesNew, cX11_comesNew, some .int, RX11) 0 1013 8019 177 = true := by decide +kernel
set_option maxRecDepth 100000 in
theorem zh274 : zheadB 274 (zxi274, 2, 3, 11, 274, 0, 0, 1, 0) (yX11_comesNew, cX11_comesNew, some .int, RX11) 0 8020 1013 8019 177 = true := zheadB_of rfl zhc274
theorem zm274 : zOK 274 (zxi274, 2, 3, 11, 274, 0, 0, 1, 0) (yX11_comesNew, cX11_comesNew, some .int, RX11) := zOK_of2 (len := 52) zh274 zr274 (fun pc h => zguard h)
def zps275 : List (Nat × Nat) := [(3, 7213), (14, 6064), (30, 8013), (41, 6064), (55, 6223), (65, 8017)]
set_option maxRecDepth 100000 in
theorem zr275 : zrowsB (yX11_put, cX11_put, some .int, RX11) zps275 zxi275 69 = true := by decide +kernel
set_option maxRecDepth 100000 in
theorem zhc275 : zheadC 275 (zxi275, 2, 2, 11, 275, 0, 0, 1, 0) (yX11_put, cX11_put, some .int, RX11) 0 1013 8010 8011 = true := by decide +kernel
set_option maxRecDepth 100000 in
theorem zh275 : zheadB 275 (zxi275, 2, 2, 11, 275, 0, 0, 1, 0) (yX11_put, cX11_put, some .int, RX11) 0 8012 1013 8010 8011 = true := zheadB_of rfl zhc275
theorem zm275 : zOK 275 (zxi275, 2, 2, 11, 275, 0, 0, 1, 0) (yX11_put, cX11_put, some .int, RX11) := zOK_of2 (len := 69) zh275 zr275 (fun pc h => zguard h)
def zps276 : List (Nat × Nat) := [(3, 7189), (14, 6064), (28, 6223), (37, 6064), (50, 6064), (59, 6064), (68, 6064), (81, 6064), (90, 6064), (103, 6064), (112, 6064), (136, 6064), (146, 6064), (169, 6064), (196, 6064), (209, 6064), (224, 6064), (237, 6064), (261, 6064), (269, 6064)]
set_option maxRecDepth 100000 in
theorem zr276 : zrowsB (yX11_take, cX11_take, some .int, RX11) zps276 zxi276 275 = true := by decide +kernel
set_option maxRecDepth 100000 in
theorem zhc276 : zheadC 276 (zxi276, 2, 5, 11, 276, 0, 0, 1, 0) (yX11_take, cX11_take, some .int, RX11) 0 1013 8022 8023 = true := by decide +kernel
set_option maxRecDepth 100000 in
theorem zh276 : zheadB 276 (zxi276, 2, 5, 11, 276, 0, 0, 1, 0) (yX11_take, cX11_take, some .int, RX11) 0 8024 1013 8022 8023 = true := zheadB_of rfl zhc276
theorem zm276 : zOK 276 (zxi276, 2, 5, 11, 276, 0, 0, 1, 0) (yX11_take, cX11_take, some .int, RX11) := zOK_of2 (len := 275) zh276 zr276 (fun pc h => zguard h)
def zps277 : List (Nat × Nat) := [(12, 7189), (25, 7213), (36, 6064), (54, 6223), (63, 6064), (74, 6064)]
set_option maxRecDepth 100000 in
theorem zr277 : zrowsB (yX11_wish, cX11_wish, some .int, RX11) zps277 zxi277 86 = true := by decide +kernel
set_option maxRecDepth 100000 in
theorem zhc277 : zheadC 277 (zxi277, 3, 4, 11, 277, 0, 0, 1, 0) (yX11_wish, cX11_wish, some .int, RX11) 0 1013 8026 8027 = true := by decide +kernel
set_option maxRecDepth 100000 in
theorem zh277 : zheadB 277 (zxi277, 3, 4, 11, 277, 0, 0, 1, 0) (yX11_wish, cX11_wish, some .int, RX11) 0 8028 1013 8026 8027 = true := zheadB_of rfl zhc277
theorem zm277 : zOK 277 (zxi277, 3, 4, 11, 277, 0, 0, 1, 0) (yX11_wish, cX11_wish, some .int, RX11) := zOK_of2 (len := 86) zh277 zr277 (fun pc h => zguard h)
def zps278 : List (Nat × Nat) := [(4, 6064), (13, 6074), (18, 6064)]
set_option maxRecDepth 100000 in
theorem zr278 : zrowsB (yX11_standsNow, cX11_standsNow, none, RX11) zps278 zxi278 35 = true := by decide +kernel
set_option maxRecDepth 100000 in
theorem zhc278 : zheadC 278 (zxi278, 1, 2, 11, 278, 0, 0, 0, 0) (yX11_standsNow, cX11_standsNow, none, RX11) 0 1013 8035 178 = true := by decide +kernel
set_option maxRecDepth 100000 in
theorem zh278 : zheadB 278 (zxi278, 1, 2, 11, 278, 0, 0, 0, 0) (yX11_standsNow, cX11_standsNow, none, RX11) 0 8036 1013 8035 178 = true := zheadB_of rfl zhc278
theorem zm278 : zOK 278 (zxi278, 1, 2, 11, 278, 0, 0, 0, 0) (yX11_standsNow, cX11_standsNow, none, RX11) := zOK_of2 (len := 35) zh278 zr278 (fun pc h => zguard h)
def zps279 : List (Nat × Nat) := [(5, 6220), (16, 6223), (38, 8033), (43, 6078), (48, 6064), (53, 8037), (66, 8053), (70, 6064), (76, 6078), (97, 6078), (104, 6064), (111, 6064), (121, 6077), (135, 6064), (142, 6078), (153, 6064), (162, 6064), (172, 6075), (186, 6064), (207, 7221)]
set_option maxRecDepth 100000 in
theorem zr279 : zrowsB (yX11_step, cX11_step, some .int, RX11) zps279 zxi279 215 = true := by decide +kernel
set_option maxRecDepth 100000 in
theorem zhc279 : zheadC 279 (zxi279, 2, 5, 11, 279, 0, 0, 1, 0) (yX11_step, cX11_step, some .int, RX11) 0 1013 8030 8031 = true := by decide +kernel
set_option maxRecDepth 100000 in
theorem zh279 : zheadB 279 (zxi279, 2, 5, 11, 279, 0, 0, 1, 0) (yX11_step, cX11_step, some .int, RX11) 0 8032 1013 8030 8031 = true := zheadB_of rfl zhc279
theorem zm279 : zOK 279 (zxi279, 2, 5, 11, 279, 0, 0, 1, 0) (yX11_step, cX11_step, some .int, RX11) := zOK_of2 (len := 215) zh279 zr279 (fun pc h => zguard h)
def zps280 : List (Nat × Nat) := [(2, 6223), (7, 6064), (14, 6064), (21, 6064), (31, 6064), (40, 6064), (49, 6064)]
set_option maxRecDepth 100000 in
theorem zr280 : zrowsB (yX11_reset, cX11_reset, some .int, RX11) zps280 zxi280 67 = true := by decide +kernel
set_option maxRecDepth 100000 in
theorem zhc280 : zheadC 280 (zxi280, 1, 3, 11, 280, 0, 0, 1, 0) (yX11_reset, cX11_reset, some .int, RX11) 0 1013 8070 8071 = true := by decide +kernel
set_option maxRecDepth 100000 in
theorem zh280 : zheadB 280 (zxi280, 1, 3, 11, 280, 0, 0, 1, 0) (yX11_reset, cX11_reset, some .int, RX11) 0 8072 1013 8070 8071 = true := zheadB_of rfl zhc280
theorem zm280 : zOK 280 (zxi280, 1, 3, 11, 280, 0, 0, 1, 0) (yX11_reset, cX11_reset, some .int, RX11) := zOK_of2 (len := 67) zh280 zr280 (fun pc h => zguard h)
def zps281 : List (Nat × Nat) := [(2, 6223), (7, 6064), (14, 6064)]
set_option maxRecDepth 100000 in
theorem zr281 : zrowsB (yX11_cut, cX11_cut, some .int, RX11) zps281 zxi281 22 = true := by decide +kernel
set_option maxRecDepth 100000 in
theorem zhc281 : zheadC 281 (zxi281, 1, 2, 11, 281, 0, 0, 1, 0) (yX11_cut, cX11_cut, some .int, RX11) 0 1013 8074 8075 = true := by decide +kernel
set_option maxRecDepth 100000 in
theorem zh281 : zheadB 281 (zxi281, 1, 2, 11, 281, 0, 0, 1, 0) (yX11_cut, cX11_cut, some .int, RX11) 0 8076 1013 8074 8075 = true := zheadB_of rfl zhc281
theorem zm281 : zOK 281 (zxi281, 1, 2, 11, 281, 0, 0, 1, 0) (yX11_cut, cX11_cut, some .int, RX11) := zOK_of2 (len := 22) zh281 zr281 (fun pc h => zguard h)
def zps282 : List (Nat × Nat) := [(3, 8081), (6, 6220), (18, 7213), (29, 6223), (38, 8082)]
set_option maxRecDepth 100000 in
theorem zr282 : zrowsB (yX11_map, cX11_map, some .int, RX11) zps282 zxi282 46 = true := by decide +kernel
set_option maxRecDepth 100000 in
theorem zhc282 : zheadC 282 (zxi282, 3, 3, 11, 282, 0, 0, 1, 0) (yX11_map, cX11_map, some .int, RX11) 0 1013 8078 8079 = true := by decide +kernel
set_option maxRecDepth 100000 in
theorem zh282 : zheadB 282 (zxi282, 3, 3, 11, 282, 0, 0, 1, 0) (yX11_map, cX11_map, some .int, RX11) 0 8080 1013 8078 8079 = true := zheadB_of rfl zhc282
theorem zm282 : zOK 282 (zxi282, 3, 3, 11, 282, 0, 0, 1, 0) (yX11_map, cX11_map, some .int, RX11) := zOK_of2 (len := 46) zh282 zr282 (fun pc h => zguard h)
def zps283 : List (Nat × Nat) := [(3, 8081), (6, 6220), (17, 6220), (29, 7213), (40, 6223), (67, 8082)]
set_option maxRecDepth 100000 in
theorem zr283 : zrowsB (yX11_ride, cX11_ride, some .int, RX11) zps283 zxi283 81 = true := by decide +kernel
set_option maxRecDepth 100000 in
theorem zhc283 : zheadC 283 (zxi283, 4, 6, 11, 283, 0, 0, 1, 0) (yX11_ride, cX11_ride, some .int, RX11) 0 1013 8087 8088 = true := by decide +kernel
set_option maxRecDepth 100000 in
theorem zh283 : zheadB 283 (zxi283, 4, 6, 11, 283, 0, 0, 1, 0) (yX11_ride, cX11_ride, some .int, RX11) 0 8089 1013 8087 8088 = true := zheadB_of rfl zhc283
theorem zm283 : zOK 283 (zxi283, 4, 6, 11, 283, 0, 0, 1, 0) (yX11_ride, cX11_ride, some .int, RX11) := zOK_of2 (len := 81) zh283 zr283 (fun pc h => zguard h)
def zps284 : List (Nat × Nat) := [(3, 7213), (14, 6223), (23, 8094)]
set_option maxRecDepth 100000 in
theorem zr284 : zrowsB (yX11_round, cX11_round, some .int, RX11) zps284 zxi284 31 = true := by decide +kernel
set_option maxRecDepth 100000 in
theorem zhc284 : zheadC 284 (zxi284, 2, 2, 11, 284, 0, 0, 1, 0) (yX11_round, cX11_round, some .int, RX11) 0 1013 8091 8092 = true := by decide +kernel
set_option maxRecDepth 100000 in
theorem zh284 : zheadB 284 (zxi284, 2, 2, 11, 284, 0, 0, 1, 0) (yX11_round, cX11_round, some .int, RX11) 0 8093 1013 8091 8092 = true := zheadB_of rfl zhc284
theorem zm284 : zOK 284 (zxi284, 2, 2, 11, 284, 0, 0, 1, 0) (yX11_round, cX11_round, some .int, RX11) := zOK_of2 (len := 31) zh284 zr284 (fun pc h => zguard h)
def zps285 : List (Nat × Nat) := [(5, 8094), (28, 8094)]
set_option maxRecDepth 100000 in
theorem zr285 : zrowsB (yX11_leastOf, cX11_leastOf, some .int, RX11) zps285 zxi285 37 = true := by decide +kernel
set_option maxRecDepth 100000 in
theorem zhc285 : zheadC 285 (zxi285, 2, 4, 11, 285, 0, 0, 1, 0) (yX11_leastOf, cX11_leastOf, some .int, RX11) 0 1013 8108 190 = true := by decide +kernel
set_option maxRecDepth 100000 in
theorem zh285 : zheadB 285 (zxi285, 2, 4, 11, 285, 0, 0, 1, 0) (yX11_leastOf, cX11_leastOf, some .int, RX11) 0 8109 1013 8108 190 = true := zheadB_of rfl zhc285
theorem zm285 : zOK 285 (zxi285, 2, 4, 11, 285, 0, 0, 1, 0) (yX11_leastOf, cX11_leastOf, some .int, RX11) := zOK_of2 (len := 37) zh285 zr285 (fun pc h => zguard h)
def zps286 : List (Nat × Nat) := [(2, 8106), (14, 6064), (25, 6064), (35, 8106)]
set_option maxRecDepth 100000 in
theorem zr286 : zrowsB (yX11_startsIn, cX11_startsIn, some .int, RX11) zps286 zxi286 57 = true := by decide +kernel
set_option maxRecDepth 100000 in
theorem zhc286 : zheadC 286 (zxi286, 2, 5, 11, 286, 0, 0, 1, 0) (yX11_startsIn, cX11_startsIn, some .int, RX11) 0 1013 8112 191 = true := by decide +kernel
set_option maxRecDepth 100000 in
theorem zh286 : zheadB 286 (zxi286, 2, 5, 11, 286, 0, 0, 1, 0) (yX11_startsIn, cX11_startsIn, some .int, RX11) 0 8113 1013 8112 191 = true := zheadB_of rfl zhc286
theorem zm286 : zOK 286 (zxi286, 2, 5, 11, 286, 0, 0, 1, 0) (yX11_startsIn, cX11_startsIn, some .int, RX11) := zOK_of2 (len := 57) zh286 zr286 (fun pc h => zguard h)
def zps287 : List (Nat × Nat) := [(4, 6220), (16, 7213), (27, 6223), (42, 8102), (55, 8106), (63, 8110)]
set_option maxRecDepth 100000 in
theorem zr287 : zrowsB (yX11_track, cX11_track, some .int, RX11) zps287 zxi287 67 = true := by decide +kernel
set_option maxRecDepth 100000 in
theorem zhc287 : zheadC 287 (zxi287, 3, 3, 11, 287, 0, 0, 1, 0) (yX11_track, cX11_track, some .int, RX11) 0 1013 8099 8100 = true := by decide +kernel
set_option maxRecDepth 100000 in
theorem zh287 : zheadB 287 (zxi287, 3, 3, 11, 287, 0, 0, 1, 0) (yX11_track, cX11_track, some .int, RX11) 0 8101 1013 8099 8100 = true := zheadB_of rfl zhc287
theorem zm287 : zOK 287 (zxi287, 3, 3, 11, 287, 0, 0, 1, 0) (yX11_track, cX11_track, some .int, RX11) := zOK_of2 (len := 67) zh287 zr287 (fun pc h => zguard h)
def zps288 : List (Nat × Nat) := [(4, 6220), (15, 6223), (36, 7135), (45, 8106), (60, 8102), (85, 7147)]
set_option maxRecDepth 100000 in
theorem zr288 : zrowsB (yX11_tracks, cX11_tracks, some .int, RX11) zps288 zxi288 116 = true := by decide +kernel
set_option maxRecDepth 100000 in
theorem zhc288 : zheadC 288 (zxi288, 2, 7, 11, 288, 0, 0, 1, 0) (yX11_tracks, cX11_tracks, some .int, RX11) 0 1013 8115 8116 = true := by decide +kernel
set_option maxRecDepth 100000 in
theorem zh288 : zheadB 288 (zxi288, 2, 7, 11, 288, 0, 0, 1, 0) (yX11_tracks, cX11_tracks, some .int, RX11) 0 8117 1013 8115 8116 = true := zheadB_of rfl zhc288
theorem zm288 : zOK 288 (zxi288, 2, 7, 11, 288, 0, 0, 1, 0) (yX11_tracks, cX11_tracks, some .int, RX11) := zOK_of2 (len := 116) zh288 zr288 (fun pc h => zguard h)
def zps289 : List (Nat × Nat) := [(11, 6223), (25, 7135), (34, 8106), (44, 8102)]
set_option maxRecDepth 100000 in
theorem zr289 : zrowsB (yX11_ofLength, cX11_ofLength, some .int, RX11) zps289 zxi289 66 = true := by decide +kernel
set_option maxRecDepth 100000 in
theorem zhc289 : zheadC 289 (zxi289, 2, 4, 11, 289, 0, 0, 1, 0) (yX11_ofLength, cX11_ofLength, some .int, RX11) 0 1013 8119 8120 = true := by decide +kernel
set_option maxRecDepth 100000 in
theorem zh289 : zheadB 289 (zxi289, 2, 4, 11, 289, 0, 0, 1, 0) (yX11_ofLength, cX11_ofLength, some .int, RX11) 0 8121 1013 8119 8120 = true := zheadB_of rfl zhc289
theorem zm289 : zOK 289 (zxi289, 2, 4, 11, 289, 0, 0, 1, 0) (yX11_ofLength, cX11_ofLength, some .int, RX11) := zOK_of2 (len := 66) zh289 zr289 (fun pc h => zguard h)
def zps290 : List (Nat × Nat) := [(7, 7143), (43, 8041), (51, 8041), (60, 7233), (63, 6088), (69, 7229), (87, 8049), (99, 8049)]
set_option maxRecDepth 100000 in
theorem zr290 : zrowsB (yX11_meetsFrom, cX11_meetsFrom, some .int, RX11) zps290 zxi290 112 = true := by decide +kernel
set_option maxRecDepth 100000 in
theorem zhc290 : zheadC 290 (zxi290, 4, 10, 11, 290, 0, 0, 1, 0) (yX11_meetsFrom, cX11_meetsFrom, some .int, RX11) 0 1013 8128 192 = true := by decide +kernel
set_option maxRecDepth 100000 in
theorem zh290 : zheadB 290 (zxi290, 4, 10, 11, 290, 0, 0, 1, 0) (yX11_meetsFrom, cX11_meetsFrom, some .int, RX11) 0 8129 1013 8128 192 = true := zheadB_of rfl zhc290
theorem zm290 : zOK 290 (zxi290, 4, 10, 11, 290, 0, 0, 1, 0) (yX11_meetsFrom, cX11_meetsFrom, some .int, RX11) := zOK_of2 (len := 112) zh290 zr290 (fun pc h => zguard h)
def zps291 : List (Nat × Nat) := [(4, 6220), (16, 7213), (24, 7213), (41, 7229), (53, 6223), (65, 8126), (77, 7221), (93, 6088)]
set_option maxRecDepth 100000 in
theorem zr291 : zrowsB (yX11_meets, cX11_meets, some .int, RX11) zps291 zxi291 97 = true := by decide +kernel
set_option maxRecDepth 100000 in
theorem zhc291 : zheadC 291 (zxi291, 4, 5, 11, 291, 0, 0, 1, 0) (yX11_meets, cX11_meets, some .int, RX11) 0 1013 8123 8124 = true := by decide +kernel
set_option maxRecDepth 100000 in
theorem zh291 : zheadB 291 (zxi291, 4, 5, 11, 291, 0, 0, 1, 0) (yX11_meets, cX11_meets, some .int, RX11) 0 8125 1013 8123 8124 = true := zheadB_of rfl zhc291
theorem zm291 : zOK 291 (zxi291, 4, 5, 11, 291, 0, 0, 1, 0) (yX11_meets, cX11_meets, some .int, RX11) := zOK_of2 (len := 97) zh291 zr291 (fun pc h => zguard h)
def zps292 : List (Nat × Nat) := [(4, 6220), (15, 6223), (39, 6064), (56, 6064), (66, 6064), (77, 6064), (88, 6064), (93, 8126), (120, 6088), (134, 6088), (164, 7221)]
set_option maxRecDepth 100000 in
theorem zr292 : zrowsB (yX11_crash, cX11_crash, some .int, RX11) zps292 zxi292 200 = true := by decide +kernel
set_option maxRecDepth 100000 in
theorem zhc292 : zheadC 292 (zxi292, 2, 9, 11, 292, 0, 0, 1, 0) (yX11_crash, cX11_crash, some .int, RX11) 0 1013 8131 8132 = true := by decide +kernel
set_option maxRecDepth 100000 in
theorem zh292 : zheadB 292 (zxi292, 2, 9, 11, 292, 0, 0, 1, 0) (yX11_crash, cX11_crash, some .int, RX11) 0 8133 1013 8131 8132 = true := zheadB_of rfl zhc292
theorem zm292 : zOK 292 (zxi292, 2, 9, 11, 292, 0, 0, 1, 0) (yX11_crash, cX11_crash, some .int, RX11) := zOK_of2 (len := 200) zh292 zr292 (fun pc h => zguard h)
def zps293 : List (Nat × Nat) := [(2, 6064), (15, 6223), (29, 6064), (40, 6064), (50, 6064), (55, 8102), (58, 7147), (70, 7143)]
set_option maxRecDepth 100000 in
theorem zr293 : zrowsB (yX11_repeat, cX11_repeat, some .int, RX11) zps293 zxi293 75 = true := by decide +kernel
set_option maxRecDepth 100000 in
theorem zhc293 : zheadC 293 (zxi293, 1, 3, 11, 293, 0, 0, 1, 0) (yX11_repeat, cX11_repeat, some .int, RX11) 0 1013 8135 8136 = true := by decide +kernel
set_option maxRecDepth 100000 in
theorem zh293 : zheadB 293 (zxi293, 1, 3, 11, 293, 0, 0, 1, 0) (yX11_repeat, cX11_repeat, some .int, RX11) 0 8137 1013 8135 8136 = true := zheadB_of rfl zhc293
theorem zm293 : zOK 293 (zxi293, 1, 3, 11, 293, 0, 0, 1, 0) (yX11_repeat, cX11_repeat, some .int, RX11) := zOK_of2 (len := 75) zh293 zr293 (fun pc h => zguard h)
def zps294 : List (Nat × Nat) := [(20, 6223), (34, 7135), (64, 6075), (70, 7229), (79, 6075), (87, 8126), (115, 6075), (136, 6075), (146, 7221)]
set_option maxRecDepth 100000 in
theorem zr294 : zrowsB (yX11_laid, cX11_laid, some .int, RX11) zps294 zxi294 150 = true := by decide +kernel
set_option maxRecDepth 100000 in
theorem zhc294 : zheadC 294 (zxi294, 2, 6, 11, 294, 0, 0, 1, 0) (yX11_laid, cX11_laid, some .int, RX11) 0 1013 8139 8140 = true := by decide +kernel
set_option maxRecDepth 100000 in
theorem zh294 : zheadB 294 (zxi294, 2, 6, 11, 294, 0, 0, 1, 0) (yX11_laid, cX11_laid, some .int, RX11) 0 8141 1013 8139 8140 = true := zheadB_of rfl zhc294
theorem zm294 : zOK 294 (zxi294, 2, 6, 11, 294, 0, 0, 1, 0) (yX11_laid, cX11_laid, some .int, RX11) := zOK_of2 (len := 150) zh294 zr294 (fun pc h => zguard h)
def zps295 : List (Nat × Nat) := [(4, 7139)]
set_option maxRecDepth 100000 in
theorem zr295 : zrowsB (yX11_settings, cX11_settings, some .int, RX11) zps295 zxi295 9 = true := by decide +kernel
set_option maxRecDepth 100000 in
theorem zhc295 : zheadC 295 (zxi295, 1, 1, 11, 295, 0, 0, 1, 0) (yX11_settings, cX11_settings, some .int, RX11) 0 1013 8151 193 = true := by decide +kernel
set_option maxRecDepth 100000 in
theorem zh295 : zheadB 295 (zxi295, 1, 1, 11, 295, 0, 0, 1, 0) (yX11_settings, cX11_settings, some .int, RX11) 0 8152 1013 8151 193 = true := zheadB_of rfl zhc295
theorem zm295 : zOK 295 (zxi295, 1, 1, 11, 295, 0, 0, 1, 0) (yX11_settings, cX11_settings, some .int, RX11) := zOK_of2 (len := 9) zh295 zr295 (fun pc h => zguard h)
def zps296 : List (Nat × Nat) := [(1, 7071), (10, 7007), (17, 6078), (25, 6077), (30, 7015), (40, 7075), (44, 7063)]
set_option maxRecDepth 100000 in
theorem zr296 : zrowsB (yX11_isSpelledWished, cX11_isSpelledWished, some .boolean, RX11) zps296 zxi296 48 = true := by decide +kernel
set_option maxRecDepth 100000 in
theorem zhc296 : zheadC 296 (zxi296, 1, 2, 11, 296, 0, 0, 2, 0) (yX11_isSpelledWished, cX11_isSpelledWished, some .boolean, RX11) 0 1013 8167 197 = true := by decide +kernel
set_option maxRecDepth 100000 in
theorem zh296 : zheadB 296 (zxi296, 1, 2, 11, 296, 0, 0, 2, 0) (yX11_isSpelledWished, cX11_isSpelledWished, some .boolean, RX11) 0 8168 1013 8167 197 = true := zheadB_of rfl zhc296
theorem zm296 : zOK 296 (zxi296, 1, 2, 11, 296, 0, 0, 2, 0) (yX11_isSpelledWished, cX11_isSpelledWished, some .boolean, RX11) := zOK_of2 (len := 48) zh296 zr296 (fun pc h => zguard h)
def zps297 : List (Nat × Nat) := [(2, 6072), (6, 8157), (27, 8037), (34, 8053), (38, 8161), (49, 6089), (54, 6079), (57, 6090), (68, 6072), (83, 6064), (92, 6064), (106, 6064), (117, 6074), (132, 6091), (144, 6078), (156, 6064), (165, 8165)]
set_option maxRecDepth 100000 in
theorem zr297 : zrowsB (yX11_whyOf, cX11_whyOf, some .int, RX11) zps297 zxi297 177 = true := by decide +kernel
set_option maxRecDepth 100000 in
theorem zhc297 : zheadC 297 (zxi297, 3, 5, 11, 297, 0, 0, 1, 0) (yX11_whyOf, cX11_whyOf, some .int, RX11) 0 1013 8155 194 = true := by decide +kernel
set_option maxRecDepth 100000 in
theorem zh297 : zheadB 297 (zxi297, 3, 5, 11, 297, 0, 0, 1, 0) (yX11_whyOf, cX11_whyOf, some .int, RX11) 0 8156 1013 8155 194 = true := zheadB_of rfl zhc297
theorem zm297 : zOK 297 (zxi297, 3, 5, 11, 297, 0, 0, 1, 0) (yX11_whyOf, cX11_whyOf, some .int, RX11) := zOK_of2 (len := 177) zh297 zr297 (fun pc h => zguard h)
def zps298 : List (Nat × Nat) := [(4, 6220)]
set_option maxRecDepth 100000 in
theorem zr298 : zrowsB (yX11_isSearch, cX11_isSearch, some .boolean, RX11) zps298 zxi298 8 = true := by decide +kernel
set_option maxRecDepth 100000 in
theorem zhc298 : zheadC 298 (zxi298, 1, 1, 11, 298, 0, 0, 2, 0) (yX11_isSearch, cX11_isSearch, some .boolean, RX11) 2 1013 8147 0 = true := by decide +kernel
set_option maxRecDepth 100000 in
theorem zh298 : zheadB 298 (zxi298, 1, 1, 11, 298, 0, 0, 2, 0) (yX11_isSearch, cX11_isSearch, some .boolean, RX11) 2 8148 1013 8147 0 = true := zheadB_of rfl zhc298
theorem zm298 : zOK 298 (zxi298, 1, 1, 11, 298, 0, 0, 2, 0) (yX11_isSearch, cX11_isSearch, some .boolean, RX11) := zOK_of2 (len := 8) zh298 zr298 (fun pc h => zguard h)
def zps299 : List (Nat × Nat) := [(2, 8146), (13, 6223), (25, 8149), (34, 8153), (50, 7221)]
set_option maxRecDepth 100000 in
theorem zr299 : zrowsB (yX11_search, cX11_search, some .int, RX11) zps299 zxi299 54 = true := by decide +kernel
set_option maxRecDepth 100000 in
theorem zhc299 : zheadC 299 (zxi299, 2, 3, 11, 299, 0, 0, 1, 0) (yX11_search, cX11_search, some .int, RX11) 0 1013 8143 8144 = true := by decide +kernel
set_option maxRecDepth 100000 in
theorem zh299 : zheadB 299 (zxi299, 2, 3, 11, 299, 0, 0, 1, 0) (yX11_search, cX11_search, some .int, RX11) 0 8145 1013 8143 8144 = true := zheadB_of rfl zhc299
theorem zm299 : zOK 299 (zxi299, 2, 3, 11, 299, 0, 0, 1, 0) (yX11_search, cX11_search, some .int, RX11) := zOK_of2 (len := 54) zh299 zr299 (fun pc h => zguard h)
def zps300 : List (Nat × Nat) := [(2, 8146), (11, 8149), (16, 6220), (25, 6220), (36, 6223), (47, 8153), (94, 6089), (102, 7221), (113, 6090), (121, 7221), (132, 6091), (140, 7221), (151, 6078), (162, 7221), (169, 6078)]
set_option maxRecDepth 100000 in
theorem zr300 : zrowsB (yX11_refusal, cX11_refusal, some .int, RX11) zps300 zxi300 173 = true := by decide +kernel
set_option maxRecDepth 100000 in
theorem zhc300 : zheadC 300 (zxi300, 4, 5, 11, 300, 0, 0, 1, 0) (yX11_refusal, cX11_refusal, some .int, RX11) 0 1013 8170 8171 = true := by decide +kernel
set_option maxRecDepth 100000 in
theorem zh300 : zheadB 300 (zxi300, 4, 5, 11, 300, 0, 0, 1, 0) (yX11_refusal, cX11_refusal, some .int, RX11) 0 8172 1013 8170 8171 = true := zheadB_of rfl zhc300
theorem zm300 : zOK 300 (zxi300, 4, 5, 11, 300, 0, 0, 1, 0) (yX11_refusal, cX11_refusal, some .int, RX11) := zOK_of2 (len := 173) zh300 zr300 (fun pc h => zguard h)
def zps301 : List (Nat × Nat) := [(2, 8146), (11, 6220), (22, 6223), (38, 8149), (49, 8153)]
set_option maxRecDepth 100000 in
theorem zr301 : zrowsB (yX11_refused, cX11_refused, some .int, RX11) zps301 zxi301 71 = true := by decide +kernel
set_option maxRecDepth 100000 in
theorem zhc301 : zheadC 301 (zxi301, 3, 5, 11, 301, 0, 0, 1, 0) (yX11_refused, cX11_refused, some .int, RX11) 0 1013 8174 8175 = true := by decide +kernel
set_option maxRecDepth 100000 in
theorem zh301 : zheadB 301 (zxi301, 3, 5, 11, 301, 0, 0, 1, 0) (yX11_refused, cX11_refused, some .int, RX11) 0 8176 1013 8174 8175 = true := zheadB_of rfl zhc301
theorem zm301 : zOK 301 (zxi301, 3, 5, 11, 301, 0, 0, 1, 0) (yX11_refused, cX11_refused, some .int, RX11) := zOK_of2 (len := 71) zh301 zr301 (fun pc h => zguard h)
def zps302 : List (Nat × Nat) := [(5, 6220), (17, 7189), (25, 7213), (36, 6064), (52, 6223), (65, 6064), (76, 6064), (84, 6064), (94, 6064), (104, 6064), (115, 6064)]
set_option maxRecDepth 100000 in
theorem zr302 : zrowsB (yX11_seen, cX11_seen, some .int, RX11) zps302 zxi302 122 = true := by decide +kernel
set_option maxRecDepth 100000 in
theorem zhc302 : zheadC 302 (zxi302, 4, 5, 11, 302, 0, 0, 1, 0) (yX11_seen, cX11_seen, some .int, RX11) 0 1013 8178 8179 = true := by decide +kernel
set_option maxRecDepth 100000 in
theorem zh302 : zheadB 302 (zxi302, 4, 5, 11, 302, 0, 0, 1, 0) (yX11_seen, cX11_seen, some .int, RX11) 0 8180 1013 8178 8179 = true := zheadB_of rfl zhc302
theorem zm302 : zOK 302 (zxi302, 4, 5, 11, 302, 0, 0, 1, 0) (yX11_seen, cX11_seen, some .int, RX11) := zOK_of2 (len := 122) zh302 zr302 (fun pc h => zguard h)
def zps303 : List (Nat × Nat) := [(2, 6223), (7, 6064), (15, 6064)]
set_option maxRecDepth 100000 in
theorem zr303 : zrowsB (yX11_forget, cX11_forget, some .int, RX11) zps303 zxi303 24 = true := by decide +kernel
set_option maxRecDepth 100000 in
theorem zhc303 : zheadC 303 (zxi303, 1, 2, 11, 303, 0, 0, 1, 0) (yX11_forget, cX11_forget, some .int, RX11) 0 1013 8182 8183 = true := by decide +kernel
set_option maxRecDepth 100000 in
theorem zh303 : zheadB 303 (zxi303, 1, 2, 11, 303, 0, 0, 1, 0) (yX11_forget, cX11_forget, some .int, RX11) 0 8184 1013 8182 8183 = true := zheadB_of rfl zhc303
theorem zm303 : zOK 303 (zxi303, 1, 2, 11, 303, 0, 0, 1, 0) (yX11_forget, cX11_forget, some .int, RX11) := zOK_of2 (len := 24) zh303 zr303 (fun pc h => zguard h)
def zps304 : List (Nat × Nat) := [(4, 6064), (14, 6064), (32, 6074), (36, 6064), (49, 6064)]
set_option maxRecDepth 100000 in
theorem zr304 : zrowsB (yX11_isSeenSo, cX11_isSeenSo, some .boolean, RX11) zps304 zxi304 75 = true := by decide +kernel
set_option maxRecDepth 100000 in
theorem zhc304 : zheadC 304 (zxi304, 2, 3, 11, 304, 0, 0, 2, 0) (yX11_isSeenSo, cX11_isSeenSo, some .boolean, RX11) 0 1013 8207 202 = true := by decide +kernel
set_option maxRecDepth 100000 in
theorem zh304 : zheadB 304 (zxi304, 2, 3, 11, 304, 0, 0, 2, 0) (yX11_isSeenSo, cX11_isSeenSo, some .boolean, RX11) 0 8208 1013 8207 202 = true := zheadB_of rfl zhc304
theorem zm304 : zOK 304 (zxi304, 2, 3, 11, 304, 0, 0, 2, 0) (yX11_isSeenSo, cX11_isSeenSo, some .boolean, RX11) := zOK_of2 (len := 75) zh304 zr304 (fun pc h => zguard h)
def zps305 : List (Nat × Nat) := [(6, 6064), (16, 6064), (34, 6064)]
set_option maxRecDepth 100000 in
theorem zr305 : zrowsB (yX11_latestSeen, cX11_latestSeen, some .int, RX11) zps305 zxi305 60 = true := by decide +kernel
set_option maxRecDepth 100000 in
theorem zhc305 : zheadC 305 (zxi305, 1, 3, 11, 305, 0, 0, 1, 0) (yX11_latestSeen, cX11_latestSeen, some .int, RX11) 0 1013 8203 201 = true := by decide +kernel
set_option maxRecDepth 100000 in
theorem zh305 : zheadB 305 (zxi305, 1, 3, 11, 305, 0, 0, 1, 0) (yX11_latestSeen, cX11_latestSeen, some .int, RX11) 0 8204 1013 8203 201 = true := zheadB_of rfl zhc305
theorem zm305 : zOK 305 (zxi305, 1, 3, 11, 305, 0, 0, 1, 0) (yX11_latestSeen, cX11_latestSeen, some .int, RX11) := zOK_of2 (len := 60) zh305 zr305 (fun pc h => zguard h)
def zps306 : List (Nat × Nat) := [(2, 6073), (17, 6068), (26, 6069), (41, 6070), (50, 6071), (54, 8157), (58, 8201), (64, 8205), (86, 8037), (100, 8161), (108, 8205), (121, 6073)]
set_option maxRecDepth 100000 in
theorem zr306 : zrowsB (yX11_doesExplain, cX11_doesExplain, some .boolean, RX11) zps306 zxi306 127 = true := by decide +kernel
set_option maxRecDepth 100000 in
theorem zhc306 : zheadC 306 (zxi306, 3, 6, 11, 306, 0, 0, 2, 0) (yX11_doesExplain, cX11_doesExplain, some .boolean, RX11) 0 1013 8199 200 = true := by decide +kernel
set_option maxRecDepth 100000 in
theorem zh306 : zheadB 306 (zxi306, 3, 6, 11, 306, 0, 0, 2, 0) (yX11_doesExplain, cX11_doesExplain, some .boolean, RX11) 0 8200 1013 8199 200 = true := zheadB_of rfl zhc306
theorem zm306 : zOK 306 (zxi306, 3, 6, 11, 306, 0, 0, 2, 0) (yX11_doesExplain, cX11_doesExplain, some .boolean, RX11) := zOK_of2 (len := 127) zh306 zr306 (fun pc h => zguard h)
def zps307 : List (Nat × Nat) := [(3, 8197), (11, 6093), (20, 6094), (25, 6095), (30, 6093), (35, 6093)]
set_option maxRecDepth 100000 in
theorem zr307 : zrowsB (yX11_names, cX11_names, none, RX11) zps307 zxi307 39 = true := by decide +kernel
set_option maxRecDepth 100000 in
theorem zhc307 : zheadC 307 (zxi307, 4, 4, 11, 307, 0, 0, 0, 0) (yX11_names, cX11_names, none, RX11) 0 1013 8195 199 = true := by decide +kernel
set_option maxRecDepth 100000 in
theorem zh307 : zheadB 307 (zxi307, 4, 4, 11, 307, 0, 0, 0, 0) (yX11_names, cX11_names, none, RX11) 0 8196 1013 8195 199 = true := zheadB_of rfl zhc307
theorem zm307 : zOK 307 (zxi307, 4, 4, 11, 307, 0, 0, 0, 0) (yX11_names, cX11_names, none, RX11) := zOK_of2 (len := 39) zh307 zr307 (fun pc h => zguard h)
def zps308 : List (Nat × Nat) := [(2, 7127), (9, 6093), (14, 6092), (21, 8193), (25, 6093), (34, 6092), (48, 8193), (58, 6093), (67, 6092), (97, 8193)]
set_option maxRecDepth 100000 in
theorem zr308 : zrowsB (yX11_seeks, cX11_seeks, none, RX11) zps308 zxi308 113 = true := by decide +kernel
set_option maxRecDepth 100000 in
theorem zhc308 : zheadC 308 (zxi308, 2, 5, 11, 308, 0, 0, 0, 0) (yX11_seeks, cX11_seeks, none, RX11) 0 1013 8191 198 = true := by decide +kernel
set_option maxRecDepth 100000 in
theorem zh308 : zheadB 308 (zxi308, 2, 5, 11, 308, 0, 0, 0, 0) (yX11_seeks, cX11_seeks, none, RX11) 0 8192 1013 8191 198 = true := zheadB_of rfl zhc308
theorem zm308 : zOK 308 (zxi308, 2, 5, 11, 308, 0, 0, 0, 0) (yX11_seeks, cX11_seeks, none, RX11) := zOK_of2 (len := 113) zh308 zr308 (fun pc h => zguard h)
def zps309 : List (Nat × Nat) := [(4, 6220), (15, 6223), (25, 8189), (29, 6093), (37, 7221), (48, 6092), (55, 6093)]
set_option maxRecDepth 100000 in
theorem zr309 : zrowsB (yX11_name, cX11_name, some .int, RX11) zps309 zxi309 59 = true := by decide +kernel
set_option maxRecDepth 100000 in
theorem zhc309 : zheadC 309 (zxi309, 2, 2, 11, 309, 0, 0, 1, 0) (yX11_name, cX11_name, some .int, RX11) 0 1013 8186 8187 = true := by decide +kernel
set_option maxRecDepth 100000 in
theorem zh309 : zheadB 309 (zxi309, 2, 2, 11, 309, 0, 0, 1, 0) (yX11_name, cX11_name, some .int, RX11) 0 8188 1013 8186 8187 = true := zheadB_of rfl zhc309
theorem zm309 : zOK 309 (zxi309, 2, 2, 11, 309, 0, 0, 1, 0) (yX11_name, cX11_name, some .int, RX11) := zOK_of2 (len := 59) zh309 zr309 (fun pc h => zguard h)
def zps310 : List (Nat × Nat) := [(14, 6223), (24, 8189), (29, 6093), (37, 6092), (45, 7221), (56, 6094), (63, 6095)]
set_option maxRecDepth 100000 in
theorem zr310 : zrowsB (yX11_named, cX11_named, some .int, RX11) zps310 zxi310 67 = true := by decide +kernel
set_option maxRecDepth 100000 in
theorem zhc310 : zheadC 310 (zxi310, 3, 3, 11, 310, 0, 0, 1, 0) (yX11_named, cX11_named, some .int, RX11) 0 1013 8210 8211 = true := by decide +kernel
set_option maxRecDepth 100000 in
theorem zh310 : zheadB 310 (zxi310, 3, 3, 11, 310, 0, 0, 1, 0) (yX11_named, cX11_named, some .int, RX11) 0 8212 1013 8210 8211 = true := zheadB_of rfl zhc310
theorem zm310 : zOK 310 (zxi310, 3, 3, 11, 310, 0, 0, 1, 0) (yX11_named, cX11_named, some .int, RX11) := zOK_of2 (len := 67) zh310 zr310 (fun pc h => zguard h)
def zps311 : List (Nat × Nat) := [(8, 6096), (12, 6097), (22, 6097), (27, 6097)]
set_option maxRecDepth 100000 in
theorem zr311 : zrowsB (yX11_puts, cX11_puts, none, RX11) zps311 zxi311 37 = true := by decide +kernel
set_option maxRecDepth 100000 in
theorem zhc311 : zheadC 311 (zxi311, 2, 3, 11, 311, 0, 0, 0, 0) (yX11_puts, cX11_puts, none, RX11) 0 1013 8219 203 = true := by decide +kernel
set_option maxRecDepth 100000 in
theorem zh311 : zheadB 311 (zxi311, 2, 3, 11, 311, 0, 0, 0, 0) (yX11_puts, cX11_puts, none, RX11) 0 8220 1013 8219 203 = true := zheadB_of rfl zhc311
theorem zm311 : zOK 311 (zxi311, 2, 3, 11, 311, 0, 0, 0, 0) (yX11_puts, cX11_puts, none, RX11) := zOK_of2 (len := 37) zh311 zr311 (fun pc h => zguard h)
def zps312 : List (Nat × Nat) := [(2, 6067), (6, 6097), (22, 8217), (27, 8217), (32, 8217), (38, 8217), (44, 8217), (48, 6097)]
set_option maxRecDepth 100000 in
theorem zr312 : zrowsB (yX11_feed, cX11_feed, some .int, RX11) zps312 zxi312 52 = true := by decide +kernel
set_option maxRecDepth 100000 in
theorem zhc312 : zheadC 312 (zxi312, 6, 6, 11, 312, 0, 0, 1, 0) (yX11_feed, cX11_feed, some .int, RX11) 0 1013 8214 8215 = true := by decide +kernel
set_option maxRecDepth 100000 in
theorem zh312 : zheadB 312 (zxi312, 6, 6, 11, 312, 0, 0, 1, 0) (yX11_feed, cX11_feed, some .int, RX11) 0 8216 1013 8214 8215 = true := zheadB_of rfl zhc312
theorem zm312 : zOK 312 (zxi312, 6, 6, 11, 312, 0, 0, 1, 0) (yX11_feed, cX11_feed, some .int, RX11) := zOK_of2 (len := 52) zh312 zr312 (fun pc h => zguard h)
def zps313 : List (Nat × Nat) := [(2, 6106), (9, 6096), (16, 6220)]
set_option maxRecDepth 100000 in
theorem zr313 : zrowsB (yX11_isOf, cX11_isOf, some .boolean, RX11) zps313 zxi313 28 = true := by decide +kernel
set_option maxRecDepth 100000 in
theorem zhc313 : zheadC 313 (zxi313, 4, 4, 11, 313, 0, 0, 2, 0) (yX11_isOf, cX11_isOf, some .boolean, RX11) 0 1013 8231 205 = true := by decide +kernel
set_option maxRecDepth 100000 in
theorem zh313 : zheadB 313 (zxi313, 4, 4, 11, 313, 0, 0, 2, 0) (yX11_isOf, cX11_isOf, some .boolean, RX11) 0 8232 1013 8231 205 = true := zheadB_of rfl zhc313
theorem zm313 : zOK 313 (zxi313, 4, 4, 11, 313, 0, 0, 2, 0) (yX11_isOf, cX11_isOf, some .boolean, RX11) := zOK_of2 (len := 28) zh313 zr313 (fun pc h => zguard h)
def zps314 : List (Nat × Nat) := [(2, 6103), (5, 6102), (9, 6102), (13, 6106), (20, 6096), (24, 6102), (34, 6096), (38, 6102), (49, 6102), (54, 6102), (62, 6102), (67, 6103), (72, 6102), (76, 6106), (87, 6096), (91, 6102), (101, 6096), (105, 6102), (119, 6104), (124, 6102), (131, 8229), (139, 6104), (144, 6107), (149, 6102), (152, 6103), (157, 6103), (164, 8229), (172, 6103), (176, 6102), (185, 8233), (189, 6107), (194, 6096), (198, 6103), (204, 8234), (211, 8235), (214, 6107), (219, 6103), (224, 6103), (232, 6102), (239, 8229), (247, 6105), (252, 6102), (255, 6103), (260, 6103), (267, 8229), (275, 6103), (279, 6102), (290, 6105), (295, 6096), (299, 6103), (311, 6105), (314, 6105), (319, 6103), (324, 6103), (332, 6103), (336, 6102), (349, 6104)]
set_option maxRecDepth 100000 in
theorem zr314 : zrowsB (yX11_reads, cX11_reads, none, RX11) zps314 zxi314 353 = true := by decide +kernel
set_option maxRecDepth 100000 in
theorem zhc314 : zheadC 314 (zxi314, 1, 1, 11, 314, 0, 0, 0, 0) (yX11_reads, cX11_reads, none, RX11) 0 1013 8227 204 = true := by decide +kernel
set_option maxRecDepth 100000 in
theorem zh314 : zheadB 314 (zxi314, 1, 1, 11, 314, 0, 0, 0, 0) (yX11_reads, cX11_reads, none, RX11) 0 8228 1013 8227 204 = true := zheadB_of rfl zhc314
theorem zm314 : zOK 314 (zxi314, 1, 1, 11, 314, 0, 0, 0, 0) (yX11_reads, cX11_reads, none, RX11) := zOK_of2 (len := 353) zh314 zr314 (fun pc h => zguard h)
def zps315 : List (Nat × Nat) := [(5, 6100), (19, 6104), (31, 6100), (36, 6102), (39, 6101)]
set_option maxRecDepth 100000 in
theorem zr315 : zrowsB (yX11_must, cX11_must, none, RX11) zps315 zxi315 43 = true := by decide +kernel
set_option maxRecDepth 100000 in
theorem zhc315 : zheadC 315 (zxi315, 3, 3, 11, 315, 0, 0, 0, 0) (yX11_must, cX11_must, none, RX11) 0 1013 9010 209 = true := by decide +kernel
set_option maxRecDepth 100000 in
theorem zh315 : zheadB 315 (zxi315, 3, 3, 11, 315, 0, 0, 0, 0) (yX11_must, cX11_must, none, RX11) 0 9011 1013 9010 209 = true := zheadB_of rfl zhc315
theorem zm315 : zOK 315 (zxi315, 3, 3, 11, 315, 0, 0, 0, 0) (yX11_must, cX11_must, none, RX11) := zOK_of2 (len := 43) zh315 zr315 (fun pc h => zguard h)
def zps316 : List (Nat × Nat) := [(1, 6100), (8, 6104), (16, 6107), (20, 6108)]
set_option maxRecDepth 100000 in
theorem zr316 : zrowsB (yX11_isWord, cX11_isWord, some .boolean, RX11) zps316 zxi316 35 = true := by decide +kernel
set_option maxRecDepth 100000 in
theorem zhc316 : zheadC 316 (zxi316, 2, 2, 11, 316, 0, 0, 2, 0) (yX11_isWord, cX11_isWord, some .boolean, RX11) 0 1013 9002 207 = true := by decide +kernel
set_option maxRecDepth 100000 in
theorem zh316 : zheadB 316 (zxi316, 2, 2, 11, 316, 0, 0, 2, 0) (yX11_isWord, cX11_isWord, some .boolean, RX11) 0 9003 1013 9002 207 = true := zheadB_of rfl zhc316
theorem zm316 : zOK 316 (zxi316, 2, 2, 11, 316, 0, 0, 2, 0) (yX11_isWord, cX11_isWord, some .boolean, RX11) := zOK_of2 (len := 35) zh316 zr316 (fun pc h => zguard h)
def zps317 : List (Nat × Nat) := [(1, 6100), (8, 6104), (16, 6096), (20, 6102)]
set_option maxRecDepth 100000 in
theorem zr317 : zrowsB (yX11_isSign, cX11_isSign, some .boolean, RX11) zps317 zxi317 34 = true := by decide +kernel
set_option maxRecDepth 100000 in
theorem zhc317 : zheadC 317 (zxi317, 2, 2, 11, 317, 0, 0, 2, 0) (yX11_isSign, cX11_isSign, some .boolean, RX11) 0 1013 9022 212 = true := by decide +kernel
set_option maxRecDepth 100000 in
theorem zh317 : zheadB 317 (zxi317, 2, 2, 11, 317, 0, 0, 2, 0) (yX11_isSign, cX11_isSign, some .boolean, RX11) 0 9023 1013 9022 212 = true := zheadB_of rfl zhc317
theorem zm317 : zOK 317 (zxi317, 2, 2, 11, 317, 0, 0, 2, 0) (yX11_isSign, cX11_isSign, some .boolean, RX11) := zOK_of2 (len := 34) zh317 zr317 (fun pc h => zguard h)
def zps318 : List (Nat × Nat) := [(3, 9008), (7, 6100), (14, 8225)]
set_option maxRecDepth 100000 in
theorem zr318 : zrowsB (yX11_takes, cX11_takes, none, RX11) zps318 zxi318 18 = true := by decide +kernel
set_option maxRecDepth 100000 in
theorem zhc318 : zheadC 318 (zxi318, 2, 2, 11, 318, 0, 0, 0, 0) (yX11_takes, cX11_takes, none, RX11) 0 1013 9006 208 = true := by decide +kernel
set_option maxRecDepth 100000 in
theorem zh318 : zheadB 318 (zxi318, 2, 2, 11, 318, 0, 0, 0, 0) (yX11_takes, cX11_takes, none, RX11) 0 9007 1013 9006 208 = true := zheadB_of rfl zhc318
theorem zm318 : zOK 318 (zxi318, 2, 2, 11, 318, 0, 0, 0, 0) (yX11_takes, cX11_takes, none, RX11) := zOK_of2 (len := 18) zh318 zr318 (fun pc h => zguard h)
def zps319 : List (Nat × Nat) := [(2, 6104), (15, 9008), (20, 6105), (25, 6220), (29, 9008)]
set_option maxRecDepth 100000 in
theorem zr319 : zrowsB (yX11_needsNumber, cX11_needsNumber, none, RX11) zps319 zxi319 33 = true := by decide +kernel
set_option maxRecDepth 100000 in
theorem zhc319 : zheadC 319 (zxi319, 3, 3, 11, 319, 0, 0, 0, 0) (yX11_needsNumber, cX11_needsNumber, none, RX11) 0 1013 9018 211 = true := by decide +kernel
set_option maxRecDepth 100000 in
theorem zh319 : zheadB 319 (zxi319, 3, 3, 11, 319, 0, 0, 0, 0) (yX11_needsNumber, cX11_needsNumber, none, RX11) 0 9019 1013 9018 211 = true := zheadB_of rfl zhc319
theorem zm319 : zOK 319 (zxi319, 3, 3, 11, 319, 0, 0, 0, 0) (yX11_needsNumber, cX11_needsNumber, none, RX11) := zOK_of2 (len := 33) zh319 zr319 (fun pc h => zguard h)
def zps320 : List (Nat × Nat) := [(3, 9016), (7, 6105), (12, 6100), (19, 8225)]
set_option maxRecDepth 100000 in
theorem zr320 : zrowsB (yX11_takesNumber, cX11_takesNumber, some .int, RX11) zps320 zxi320 24 = true := by decide +kernel
set_option maxRecDepth 100000 in
theorem zhc320 : zheadC 320 (zxi320, 3, 4, 11, 320, 0, 0, 1, 0) (yX11_takesNumber, cX11_takesNumber, some .int, RX11) 0 1013 9014 210 = true := by decide +kernel
set_option maxRecDepth 100000 in
theorem zh320 : zheadB 320 (zxi320, 3, 4, 11, 320, 0, 0, 1, 0) (yX11_takesNumber, cX11_takesNumber, some .int, RX11) 0 9015 1013 9014 210 = true := zheadB_of rfl zhc320
theorem zm320 : zOK 320 (zxi320, 3, 4, 11, 320, 0, 0, 1, 0) (yX11_takesNumber, cX11_takesNumber, some .int, RX11) := zOK_of2 (len := 24) zh320 zr320 (fun pc h => zguard h)
def zps321 : List (Nat × Nat) := [(1, 8225), (7, 7127), (12, 9012), (24, 6100), (38, 9016), (54, 9008), (58, 6100), (67, 6105), (78, 8225), (82, 6104), (100, 6100), (108, 6064), (118, 6064)]
set_option maxRecDepth 100000 in
theorem zr321 : zrowsB (yX11_readsSwitch, cX11_readsSwitch, none, RX11) zps321 zxi321 128 = true := by decide +kernel
set_option maxRecDepth 100000 in
theorem zhc321 : zheadC 321 (zxi321, 1, 5, 11, 321, 0, 0, 0, 0) (yX11_readsSwitch, cX11_readsSwitch, none, RX11) 0 1013 9030 214 = true := by decide +kernel
set_option maxRecDepth 100000 in
theorem zh321 : zheadB 321 (zxi321, 1, 5, 11, 321, 0, 0, 0, 0) (yX11_readsSwitch, cX11_readsSwitch, none, RX11) 0 9031 1013 9030 214 = true := zheadB_of rfl zhc321
theorem zm321 : zOK 321 (zxi321, 1, 5, 11, 321, 0, 0, 0, 0) (yX11_readsSwitch, cX11_readsSwitch, none, RX11) := zOK_of2 (len := 128) zh321 zr321 (fun pc h => zguard h)
def zps322 : List (Nat × Nat) := [(2, 6064), (19, 9008), (23, 6100), (31, 8225), (37, 7135), (42, 9016), (47, 6100), (55, 6105), (58, 8013), (70, 9008), (74, 6105), (79, 6100), (87, 8225), (92, 8017)]
set_option maxRecDepth 100000 in
theorem zr322 : zrowsB (yX11_readsBobbin, cX11_readsBobbin, none, RX11) zps322 zxi322 97 = true := by decide +kernel
set_option maxRecDepth 100000 in
theorem zhc322 : zheadC 322 (zxi322, 1, 2, 11, 322, 0, 0, 0, 0) (yX11_readsBobbin, cX11_readsBobbin, none, RX11) 0 1013 9034 215 = true := by decide +kernel
set_option maxRecDepth 100000 in
theorem zh322 : zheadB 322 (zxi322, 1, 2, 11, 322, 0, 0, 0, 0) (yX11_readsBobbin, cX11_readsBobbin, none, RX11) 0 9035 1013 9034 215 = true := zheadB_of rfl zhc322
theorem zm322 : zOK 322 (zxi322, 1, 2, 11, 322, 0, 0, 0, 0) (yX11_readsBobbin, cX11_readsBobbin, none, RX11) := zOK_of2 (len := 97) zh322 zr322 (fun pc h => zguard h)
def zps323 : List (Nat × Nat) := [(1, 8225), (7, 7127), (12, 9012), (18, 9000), (33, 9000), (41, 9000), (52, 9004), (56, 6100), (63, 6064)]
set_option maxRecDepth 100000 in
theorem zr323 : zrowsB (yX11_readsStuck, cX11_readsStuck, none, RX11) zps323 zxi323 73 = true := by decide +kernel
set_option maxRecDepth 100000 in
theorem zhc323 : zheadC 323 (zxi323, 1, 3, 11, 323, 0, 0, 0, 0) (yX11_readsStuck, cX11_readsStuck, none, RX11) 0 1013 9038 216 = true := by decide +kernel
set_option maxRecDepth 100000 in
theorem zh323 : zheadB 323 (zxi323, 1, 3, 11, 323, 0, 0, 0, 0) (yX11_readsStuck, cX11_readsStuck, none, RX11) 0 9039 1013 9038 216 = true := zheadB_of rfl zhc323
theorem zm323 : zOK 323 (zxi323, 1, 3, 11, 323, 0, 0, 0, 0) (yX11_readsStuck, cX11_readsStuck, none, RX11) := zOK_of2 (len := 73) zh323 zr323 (fun pc h => zguard h)
def zps324 : List (Nat × Nat) := [(4, 7139), (19, 9008), (23, 6100), (31, 8225), (37, 7127), (42, 9012), (47, 6100), (54, 6064)]
set_option maxRecDepth 100000 in
theorem zr324 : zrowsB (yX11_readsFree, cX11_readsFree, none, RX11) zps324 zxi324 64 = true := by decide +kernel
set_option maxRecDepth 100000 in
theorem zhc324 : zheadC 324 (zxi324, 1, 2, 11, 324, 0, 0, 0, 0) (yX11_readsFree, cX11_readsFree, none, RX11) 0 1013 9042 217 = true := by decide +kernel
set_option maxRecDepth 100000 in
theorem zh324 : zheadB 324 (zxi324, 1, 2, 11, 324, 0, 0, 0, 0) (yX11_readsFree, cX11_readsFree, none, RX11) 0 9043 1013 9042 217 = true := zheadB_of rfl zhc324
theorem zm324 : zOK 324 (zxi324, 1, 2, 11, 324, 0, 0, 0, 0) (yX11_readsFree, cX11_readsFree, none, RX11) := zOK_of2 (len := 64) zh324 zr324 (fun pc h => zguard h)
def zps325 : List (Nat × Nat) := [(1, 8225), (7, 6064), (14, 9012), (21, 7135), (26, 9012), (31, 6100), (38, 6064)]
set_option maxRecDepth 100000 in
theorem zr325 : zrowsB (yX11_readsPlace, cX11_readsPlace, none, RX11) zps325 zxi325 49 = true := by decide +kernel
set_option maxRecDepth 100000 in
theorem zhc325 : zheadC 325 (zxi325, 1, 3, 11, 325, 0, 0, 0, 0) (yX11_readsPlace, cX11_readsPlace, none, RX11) 0 1013 9046 218 = true := by decide +kernel
set_option maxRecDepth 100000 in
theorem zh325 : zheadB 325 (zxi325, 1, 3, 11, 325, 0, 0, 0, 0) (yX11_readsPlace, cX11_readsPlace, none, RX11) 0 9047 1013 9046 218 = true := zheadB_of rfl zhc325
theorem zm325 : zOK 325 (zxi325, 1, 3, 11, 325, 0, 0, 0, 0) (yX11_readsPlace, cX11_readsPlace, none, RX11) := zOK_of2 (len := 49) zh325 zr325 (fun pc h => zguard h)
def zps326 : List (Nat × Nat) := [(1, 8225), (5, 6064), (12, 6100), (19, 6104), (29, 9020), (38, 9020), (47, 8225), (54, 9016), (59, 6064), (76, 9008), (80, 6100), (88, 6064), (95, 6064), (107, 6105), (115, 6105), (120, 6064), (130, 8225)]
set_option maxRecDepth 100000 in
theorem zr326 : zrowsB (yX11_readsWord, cX11_readsWord, none, RX11) zps326 zxi326 137 = true := by decide +kernel
set_option maxRecDepth 100000 in
theorem zhc326 : zheadC 326 (zxi326, 1, 2, 11, 326, 0, 0, 0, 0) (yX11_readsWord, cX11_readsWord, none, RX11) 0 1013 9050 219 = true := by decide +kernel
set_option maxRecDepth 100000 in
theorem zh326 : zheadB 326 (zxi326, 1, 2, 11, 326, 0, 0, 0, 0) (yX11_readsWord, cX11_readsWord, none, RX11) 0 9051 1013 9050 219 = true := zheadB_of rfl zhc326
theorem zm326 : zOK 326 (zxi326, 1, 2, 11, 326, 0, 0, 0, 0) (yX11_readsWord, cX11_readsWord, none, RX11) := zOK_of2 (len := 137) zh326 zr326 (fun pc h => zguard h)
def zps327 : List (Nat × Nat) := [(2, 9000), (9, 9028), (17, 9000), (24, 9032), (32, 9000), (39, 9036), (48, 9000), (55, 9040), (64, 9000), (71, 9044), (80, 9000), (87, 9048), (96, 9008), (103, 9020), (106, 9004)]
set_option maxRecDepth 100000 in
theorem zr327 : zrowsB (yX11_line, cX11_line, none, RX11) zps327 zxi327 110 = true := by decide +kernel
set_option maxRecDepth 100000 in
theorem zhc327 : zheadC 327 (zxi327, 1, 1, 11, 327, 0, 0, 0, 0) (yX11_line, cX11_line, none, RX11) 0 1013 9026 213 = true := by decide +kernel
set_option maxRecDepth 100000 in
theorem zh327 : zheadB 327 (zxi327, 1, 1, 11, 327, 0, 0, 0, 0) (yX11_line, cX11_line, none, RX11) 0 9027 1013 9026 213 = true := zheadB_of rfl zhc327
theorem zm327 : zOK 327 (zxi327, 1, 1, 11, 327, 0, 0, 0, 0) (yX11_line, cX11_line, none, RX11) := zOK_of2 (len := 110) zh327 zr327 (fun pc h => zguard h)
def zps328 : List (Nat × Nat) := [(3, 9000), (6, 9004), (12, 9012), (19, 9012), (27, 9020), (30, 9004), (34, 6100), (44, 6060), (48, 6100), (55, 6104), (62, 9024)]
set_option maxRecDepth 100000 in
theorem zr328 : zrowsB (yX11_readsAll, cX11_readsAll, none, RX11) zps328 zxi328 69 = true := by decide +kernel
set_option maxRecDepth 100000 in
theorem zhc328 : zheadC 328 (zxi328, 1, 3, 11, 328, 0, 0, 0, 0) (yX11_readsAll, cX11_readsAll, none, RX11) 0 1013 8238 206 = true := by decide +kernel
set_option maxRecDepth 100000 in
theorem zh328 : zheadB 328 (zxi328, 1, 3, 11, 328, 0, 0, 0, 0) (yX11_readsAll, cX11_readsAll, none, RX11) 0 8239 1013 8238 206 = true := zheadB_of rfl zhc328
theorem zm328 : zOK 328 (zxi328, 1, 3, 11, 328, 0, 0, 0, 0) (yX11_readsAll, cX11_readsAll, none, RX11) := zOK_of2 (len := 69) zh328 zr328 (fun pc h => zguard h)
def zps329 : List (Nat × Nat) := [(4, 6097), (7, 6220), (18, 6223), (36, 6065), (41, 6064), (55, 6106), (60, 6103), (65, 6100), (69, 8225), (73, 8236), (78, 6097), (83, 6100), (86, 6098), (91, 6100), (98, 6101), (105, 6099), (110, 6100), (122, 6066), (126, 6100), (133, 7135), (147, 6064), (152, 6065)]
set_option maxRecDepth 100000 in
theorem zr329 : zrowsB (yX11_load, cX11_load, some .int, RX11) zps329 zxi329 166 = true := by decide +kernel
set_option maxRecDepth 100000 in
theorem zhc329 : zheadC 329 (zxi329, 2, 3, 11, 329, 0, 0, 1, 0) (yX11_load, cX11_load, some .int, RX11) 0 1013 8222 8223 = true := by decide +kernel
set_option maxRecDepth 100000 in
theorem zh329 : zheadB 329 (zxi329, 2, 3, 11, 329, 0, 0, 1, 0) (yX11_load, cX11_load, some .int, RX11) 0 8224 1013 8222 8223 = true := zheadB_of rfl zhc329
theorem zm329 : zOK 329 (zxi329, 2, 3, 11, 329, 0, 0, 1, 0) (yX11_load, cX11_load, some .int, RX11) := zOK_of2 (len := 166) zh329 zr329 (fun pc h => zguard h)
def zps330 : List (Nat × Nat) := [(2, 6067), (10, 6098), (22, 6099)]
set_option maxRecDepth 100000 in
theorem zr330 : zrowsB (yX11_fault, cX11_fault, some .int, RX11) zps330 zxi330 30 = true := by decide +kernel
set_option maxRecDepth 100000 in
theorem zhc330 : zheadC 330 (zxi330, 2, 2, 11, 330, 0, 0, 1, 0) (yX11_fault, cX11_fault, some .int, RX11) 0 1013 9053 9054 = true := by decide +kernel
set_option maxRecDepth 100000 in
theorem zh330 : zheadB 330 (zxi330, 2, 2, 11, 330, 0, 0, 1, 0) (yX11_fault, cX11_fault, some .int, RX11) 0 9055 1013 9053 9054 = true := zheadB_of rfl zhc330
theorem zm330 : zOK 330 (zxi330, 2, 2, 11, 330, 0, 0, 1, 0) (yX11_fault, cX11_fault, some .int, RX11) := zOK_of2 (len := 30) zh330 zr330 (fun pc h => zguard h)
def zps331 : List (Nat × Nat) := [(1, 6112), (11, 6110), (15, 6112), (22, 6112), (27, 6112)]
set_option maxRecDepth 100000 in
theorem zr331 : zrowsB (yX11_tells, cX11_tells, none, RX11) zps331 zxi331 31 = true := by decide +kernel
set_option maxRecDepth 100000 in
theorem zhc331 : zheadC 331 (zxi331, 2, 2, 11, 331, 0, 0, 0, 0) (yX11_tells, cX11_tells, none, RX11) 0 1013 9073 222 = true := by decide +kernel
set_option maxRecDepth 100000 in
theorem zh331 : zheadB 331 (zxi331, 2, 2, 11, 331, 0, 0, 0, 0) (yX11_tells, cX11_tells, none, RX11) 0 9074 1013 9073 222 = true := zheadB_of rfl zhc331
theorem zm331 : zOK 331 (zxi331, 2, 2, 11, 331, 0, 0, 0, 0) (yX11_tells, cX11_tells, none, RX11) := zOK_of2 (len := 31) zh331 zr331 (fun pc h => zguard h)
def zps332 : List (Nat × Nat) := [(4, 9069), (13, 9070), (16, 9071)]
set_option maxRecDepth 100000 in
theorem zr332 : zrowsB (yX11_says, cX11_says, none, RX11) zps332 zxi332 26 = true := by decide +kernel
set_option maxRecDepth 100000 in
theorem zhc332 : zheadC 332 (zxi332, 2, 3, 11, 332, 0, 0, 0, 0) (yX11_says, cX11_says, none, RX11) 0 1013 9067 221 = true := by decide +kernel
set_option maxRecDepth 100000 in
theorem zh332 : zheadB 332 (zxi332, 2, 3, 11, 332, 0, 0, 0, 0) (yX11_says, cX11_says, none, RX11) 0 9068 1013 9067 221 = true := zheadB_of rfl zhc332
theorem zm332 : zOK 332 (zxi332, 2, 3, 11, 332, 0, 0, 0, 0) (yX11_says, cX11_says, none, RX11) := zOK_of2 (len := 26) zh332 zr332 (fun pc h => zguard h)
def zps333 : List (Nat × Nat) := [(3, 9071), (20, 9071), (40, 9071), (51, 9071)]
set_option maxRecDepth 100000 in
theorem zr333 : zrowsB (yX11_saysNumber, cX11_saysNumber, none, RX11) zps333 zxi333 55 = true := by decide +kernel
set_option maxRecDepth 100000 in
theorem zhc333 : zheadC 333 (zxi333, 2, 2, 11, 333, 0, 0, 0, 0) (yX11_saysNumber, cX11_saysNumber, none, RX11) 0 1013 9077 223 = true := by decide +kernel
set_option maxRecDepth 100000 in
theorem zh333 : zheadB 333 (zxi333, 2, 2, 11, 333, 0, 0, 0, 0) (yX11_saysNumber, cX11_saysNumber, none, RX11) 0 9078 1013 9077 223 = true := zheadB_of rfl zhc333
theorem zm333 : zOK 333 (zxi333, 2, 2, 11, 333, 0, 0, 0, 0) (yX11_saysNumber, cX11_saysNumber, none, RX11) := zOK_of2 (len := 55) zh333 zr333 (fun pc h => zguard h)
def zps334 : List (Nat × Nat) := [(2, 9065), (7, 9075), (13, 9071)]
set_option maxRecDepth 100000 in
theorem zr334 : zrowsB (yX11_saysLine, cX11_saysLine, none, RX11) zps334 zxi334 17 = true := by decide +kernel
set_option maxRecDepth 100000 in
theorem zhc334 : zheadC 334 (zxi334, 3, 3, 11, 334, 0, 0, 0, 0) (yX11_saysLine, cX11_saysLine, none, RX11) 0 1013 9087 225 = true := by decide +kernel
set_option maxRecDepth 100000 in
theorem zh334 : zheadB 334 (zxi334, 3, 3, 11, 334, 0, 0, 0, 0) (yX11_saysLine, cX11_saysLine, none, RX11) 0 9088 1013 9087 225 = true := zheadB_of rfl zhc334
theorem zm334 : zOK 334 (zxi334, 3, 3, 11, 334, 0, 0, 0, 0) (yX11_saysLine, cX11_saysLine, none, RX11) := zOK_of2 (len := 17) zh334 zr334 (fun pc h => zguard h)
def zps335 : List (Nat × Nat) := [(4, 7127), (11, 6064), (24, 6064), (42, 9065), (47, 9075), (54, 6064), (67, 6064), (79, 9075), (91, 9071)]
set_option maxRecDepth 100000 in
theorem zr335 : zrowsB (yX11_saysSwitches, cX11_saysSwitches, none, RX11) zps335 zxi335 101 = true := by decide +kernel
set_option maxRecDepth 100000 in
theorem zhc335 : zheadC 335 (zxi335, 1, 3, 11, 335, 0, 0, 0, 0) (yX11_saysSwitches, cX11_saysSwitches, none, RX11) 0 1013 9081 224 = true := by decide +kernel
set_option maxRecDepth 100000 in
theorem zh335 : zheadB 335 (zxi335, 1, 3, 11, 335, 0, 0, 0, 0) (yX11_saysSwitches, cX11_saysSwitches, none, RX11) 0 9082 1013 9081 224 = true := zheadB_of rfl zhc335
theorem zm335 : zOK 335 (zxi335, 1, 3, 11, 335, 0, 0, 0, 0) (yX11_saysSwitches, cX11_saysSwitches, none, RX11) := zOK_of2 (len := 101) zh335 zr335 (fun pc h => zguard h)
def zps336 : List (Nat × Nat) := [(4, 9065), (11, 6064), (20, 6064), (38, 9065), (53, 9075), (65, 9071)]
set_option maxRecDepth 100000 in
theorem zr336 : zrowsB (yX11_saysWord, cX11_saysWord, none, RX11) zps336 zxi336 69 = true := by decide +kernel
set_option maxRecDepth 100000 in
theorem zhc336 : zheadC 336 (zxi336, 1, 3, 11, 336, 0, 0, 0, 0) (yX11_saysWord, cX11_saysWord, none, RX11) 0 1013 9096 226 = true := by decide +kernel
set_option maxRecDepth 100000 in
theorem zh336 : zheadB 336 (zxi336, 1, 3, 11, 336, 0, 0, 0, 0) (yX11_saysWord, cX11_saysWord, none, RX11) 0 9097 1013 9096 226 = true := zheadB_of rfl zhc336
theorem zm336 : zOK 336 (zxi336, 1, 3, 11, 336, 0, 0, 0, 0) (yX11_saysWord, cX11_saysWord, none, RX11) := zOK_of2 (len := 69) zh336 zr336 (fun pc h => zguard h)
def zps337 : List (Nat × Nat) := [(4, 9065), (9, 6064), (14, 9075), (19, 6064), (24, 9075), (30, 9071), (34, 9079), (41, 6064), (54, 6064), (63, 9085), (76, 7127), (83, 6064), (101, 9065), (106, 9075), (111, 6064), (132, 9065), (145, 7127), (152, 6064), (169, 9085), (182, 6064), (191, 6064), (210, 9065), (215, 9075), (220, 6064), (229, 9075), (235, 9071), (245, 6064), (254, 9094)]
set_option maxRecDepth 100000 in
theorem zr337 : zrowsB (yX11_saysAll, cX11_saysAll, none, RX11) zps337 zxi337 258 = true := by decide +kernel
set_option maxRecDepth 100000 in
theorem zhc337 : zheadC 337 (zxi337, 1, 2, 11, 337, 0, 0, 0, 0) (yX11_saysAll, cX11_saysAll, none, RX11) 0 1013 9062 220 = true := by decide +kernel
set_option maxRecDepth 100000 in
theorem zh337 : zheadB 337 (zxi337, 1, 2, 11, 337, 0, 0, 0, 0) (yX11_saysAll, cX11_saysAll, none, RX11) 0 9063 1013 9062 220 = true := zheadB_of rfl zhc337
theorem zm337 : zOK 337 (zxi337, 1, 2, 11, 337, 0, 0, 0, 0) (yX11_saysAll, cX11_saysAll, none, RX11) := zOK_of2 (len := 258) zh337 zr337 (fun pc h => zguard h)
def zps338 : List (Nat × Nat) := [(2, 6223), (8, 6112), (12, 9060), (16, 6112), (27, 7221), (35, 6112), (42, 6109), (47, 6110), (61, 6112), (64, 6111), (68, 6112)]
set_option maxRecDepth 100000 in
theorem zr338 : zrowsB (yX11_print, cX11_print, some .int, RX11) zps338 zxi338 72 = true := by decide +kernel
set_option maxRecDepth 100000 in
theorem zhc338 : zheadC 338 (zxi338, 1, 2, 11, 338, 0, 0, 1, 0) (yX11_print, cX11_print, some .int, RX11) 0 1013 9057 9058 = true := by decide +kernel
set_option maxRecDepth 100000 in
theorem zh338 : zheadB 338 (zxi338, 1, 2, 11, 338, 0, 0, 1, 0) (yX11_print, cX11_print, some .int, RX11) 0 9059 1013 9057 9058 = true := zheadB_of rfl zhc338
theorem zm338 : zOK 338 (zxi338, 1, 2, 11, 338, 0, 0, 1, 0) (yX11_print, cX11_print, some .int, RX11) := zOK_of2 (len := 72) zh338 zr338 (fun pc h => zguard h)
def zps339 : List (Nat × Nat) := [(11, 6111), (22, 6223), (29, 6109)]
set_option maxRecDepth 100000 in
theorem zr339 : zrowsB (yX11_out, cX11_out, some .int, RX11) zps339 zxi339 39 = true := by decide +kernel
set_option maxRecDepth 100000 in
theorem zhc339 : zheadC 339 (zxi339, 2, 2, 11, 339, 0, 0, 1, 0) (yX11_out, cX11_out, some .int, RX11) 0 1013 9101 9102 = true := by decide +kernel
set_option maxRecDepth 100000 in
theorem zh339 : zheadB 339 (zxi339, 2, 2, 11, 339, 0, 0, 1, 0) (yX11_out, cX11_out, some .int, RX11) 0 9103 1013 9101 9102 = true := zheadB_of rfl zhc339
theorem zm339 : zOK 339 (zxi339, 2, 2, 11, 339, 0, 0, 1, 0) (yX11_out, cX11_out, some .int, RX11) := zOK_of2 (len := 39) zh339 zr339 (fun pc h => zguard h)
def zps340 : List (Nat × Nat) := []
set_option maxRecDepth 100000 in
theorem zr340 : zrowsB (yJ9_floorMod_7cf53, cJ9_floorMod_7cf53, some .int, RJ9) zps340 zxi340 20 = true := by decide +kernel
set_option maxRecDepth 100000 in
theorem zhc340 : zheadC 340 (zxi340, 2, 3, 12, 340, 0, 0, 1, 0) (yJ9_floorMod_7cf53, cJ9_floorMod_7cf53, some .int, RJ9) 2 1005 3190 0 = true := by decide +kernel
set_option maxRecDepth 100000 in
theorem zh340 : zheadB 340 (zxi340, 2, 3, 12, 340, 0, 0, 1, 0) (yJ9_floorMod_7cf53, cJ9_floorMod_7cf53, some .int, RJ9) 2 3191 1005 3190 0 = true := zheadB_of rfl zhc340
theorem zm340 : zOK 340 (zxi340, 2, 3, 12, 340, 0, 0, 1, 0) (yJ9_floorMod_7cf53, cJ9_floorMod_7cf53, some .int, RJ9) := zOK_of2 (len := 20) zh340 zr340 (fun pc h => zguard h)
def zps341 : List (Nat × Nat) := []
set_option maxRecDepth 100000 in
theorem zr341 : zrowsB (yJ9_abs_0f7a4, cJ9_abs_0f7a4, some .int, RJ9) zps341 zxi341 11 = true := by decide +kernel
set_option maxRecDepth 100000 in
theorem zhc341 : zheadC 341 (zxi341, 1, 1, 12, 341, 0, 0, 1, 0) (yJ9_abs_0f7a4, cJ9_abs_0f7a4, some .int, RJ9) 2 1005 4134 0 = true := by decide +kernel
set_option maxRecDepth 100000 in
theorem zh341 : zheadB 341 (zxi341, 1, 1, 12, 341, 0, 0, 1, 0) (yJ9_abs_0f7a4, cJ9_abs_0f7a4, some .int, RJ9) 2 4135 1005 4134 0 = true := zheadB_of rfl zhc341
theorem zm341 : zOK 341 (zxi341, 1, 1, 12, 341, 0, 0, 1, 0) (yJ9_abs_0f7a4, cJ9_abs_0f7a4, some .int, RJ9) := zOK_of2 (len := 11) zh341 zr341 (fun pc h => zguard h)
def zps342 : List (Nat × Nat) := []
set_option maxRecDepth 100000 in
theorem zr342 : zrowsB (yJ9_abs_067f4, cJ9_abs_067f4, some .long, RJ9) zps342 zxi342 13 = true := by decide +kernel
set_option maxRecDepth 100000 in
theorem zhc342 : zheadC 342 (zxi342, 1, 2, 12, 342, 0, 0, 3, 0) (yJ9_abs_067f4, cJ9_abs_067f4, some .long, RJ9) 2 1005 5104 0 = true := by decide +kernel
set_option maxRecDepth 100000 in
theorem zh342 : zheadB 342 (zxi342, 1, 2, 12, 342, 0, 0, 3, 0) (yJ9_abs_067f4, cJ9_abs_067f4, some .long, RJ9) 2 5105 1005 5104 0 = true := zheadB_of rfl zhc342
theorem zm342 : zOK 342 (zxi342, 1, 2, 12, 342, 0, 0, 3, 0) (yJ9_abs_067f4, cJ9_abs_067f4, some .long, RJ9) := zOK_of2 (len := 13) zh342 zr342 (fun pc h => zguard h)
def zps343 : List (Nat × Nat) := []
set_option maxRecDepth 100000 in
theorem zr343 : zrowsB (yJ9_max_7cf53, cJ9_max_7cf53, some .int, RJ9) zps343 zxi343 11 = true := by decide +kernel
set_option maxRecDepth 100000 in
theorem zhc343 : zheadC 343 (zxi343, 2, 2, 12, 343, 0, 0, 1, 0) (yJ9_max_7cf53, cJ9_max_7cf53, some .int, RJ9) 2 1005 1106 0 = true := by decide +kernel
set_option maxRecDepth 100000 in
theorem zh343 : zheadB 343 (zxi343, 2, 2, 12, 343, 0, 0, 1, 0) (yJ9_max_7cf53, cJ9_max_7cf53, some .int, RJ9) 2 1107 1005 1106 0 = true := zheadB_of rfl zhc343
theorem zm343 : zOK 343 (zxi343, 2, 2, 12, 343, 0, 0, 1, 0) (yJ9_max_7cf53, cJ9_max_7cf53, some .int, RJ9) := zOK_of2 (len := 11) zh343 zr343 (fun pc h => zguard h)
def zps344 : List (Nat × Nat) := []
set_option maxRecDepth 100000 in
theorem zr344 : zrowsB (yJ9_min_7cf53, cJ9_min_7cf53, some .int, RJ9) zps344 zxi344 11 = true := by decide +kernel
set_option maxRecDepth 100000 in
theorem zhc344 : zheadC 344 (zxi344, 2, 2, 12, 344, 0, 0, 1, 0) (yJ9_min_7cf53, cJ9_min_7cf53, some .int, RJ9) 2 1005 4130 0 = true := by decide +kernel
set_option maxRecDepth 100000 in
theorem zh344 : zheadB 344 (zxi344, 2, 2, 12, 344, 0, 0, 1, 0) (yJ9_min_7cf53, cJ9_min_7cf53, some .int, RJ9) 2 4131 1005 4130 0 = true := zheadB_of rfl zhc344
theorem zm344 : zOK 344 (zxi344, 2, 2, 12, 344, 0, 0, 1, 0) (yJ9_min_7cf53, cJ9_min_7cf53, some .int, RJ9) := zOK_of2 (len := 11) zh344 zr344 (fun pc h => zguard h)
def zps345 : List (Nat × Nat) := [(1, 9104), (6, 3032)]
set_option maxRecDepth 100000 in
theorem zr345 : zrowsB (yJ0_length_8abf5, cJ0_length_8abf5, some .int, RJ0) zps345 zxi345 11 = true := by decide +kernel
set_option maxRecDepth 100000 in
theorem zhc345 : zheadC 345 (zxi345, 1, 1, 13, 345, 0, 0, 1, 0) (yJ0_length_8abf5, cJ0_length_8abf5, some .int, RJ0) 0 1014 3029 3030 = true := by decide +kernel
set_option maxRecDepth 100000 in
theorem zh345 : zheadB 345 (zxi345, 1, 1, 13, 345, 0, 0, 1, 0) (yJ0_length_8abf5, cJ0_length_8abf5, some .int, RJ0) 0 3031 1014 3029 3030 = true := zheadB_of rfl zhc345
theorem zm345 : zOK 345 (zxi345, 1, 1, 13, 345, 0, 0, 1, 0) (yJ0_length_8abf5, cJ0_length_8abf5, some .int, RJ0) := zOK_of2 (len := 11) zh345 zr345 (fun pc h => zguard h)
def zps346 : List (Nat × Nat) := [(1, 3042), (8, 9104), (12, 3046), (17, 9104), (21, 3057)]
set_option maxRecDepth 100000 in
theorem zr346 : zrowsB (yJ0_charAt_5068e, cJ0_charAt_5068e, some .char, RJ0) zps346 zxi346 25 = true := by decide +kernel
set_option maxRecDepth 100000 in
theorem zhc346 : zheadC 346 (zxi346, 2, 2, 13, 346, 0, 0, 5, 0) (yJ0_charAt_5068e, cJ0_charAt_5068e, some .char, RJ0) 0 1014 3039 3040 = true := by decide +kernel
set_option maxRecDepth 100000 in
theorem zh346 : zheadB 346 (zxi346, 2, 2, 13, 346, 0, 0, 5, 0) (yJ0_charAt_5068e, cJ0_charAt_5068e, some .char, RJ0) 0 3041 1014 3039 3040 = true := zheadB_of rfl zhc346
theorem zm346 : zOK 346 (zxi346, 2, 2, 13, 346, 0, 0, 5, 0) (yJ0_charAt_5068e, cJ0_charAt_5068e, some .char, RJ0) := zOK_of2 (len := 25) zh346 zr346 (fun pc h => zguard h)
def zps347 : List (Nat × Nat) := [(0, 3036), (7, 9105)]
set_option maxRecDepth 100000 in
theorem zr347 : zrowsB (yJ0_coder_7d493, cJ0_coder_7d493, some .byte, RJ0) zps347 zxi347 15 = true := by decide +kernel
set_option maxRecDepth 100000 in
theorem zhc347 : zheadC 347 (zxi347, 1, 1, 13, 347, 0, 0, 4, 0) (yJ0_coder_7d493, cJ0_coder_7d493, some .byte, RJ0) 0 1014 3033 3034 = true := by decide +kernel
set_option maxRecDepth 100000 in
theorem zh347 : zheadB 347 (zxi347, 1, 1, 13, 347, 0, 0, 4, 0) (yJ0_coder_7d493, cJ0_coder_7d493, some .byte, RJ0) 0 3035 1014 3033 3034 = true := zheadB_of rfl zhc347
theorem zm347 : zOK 347 (zxi347, 1, 1, 13, 347, 0, 0, 4, 0) (yJ0_coder_7d493, cJ0_coder_7d493, some .byte, RJ0) := zOK_of2 (len := 15) zh347 zr347 (fun pc h => zguard h)
def zps348 : List (Nat × Nat) := [(0, 3036), (7, 9105)]
set_option maxRecDepth 100000 in
theorem zr348 : zrowsB (yJ0_isLatin1_aae02, cJ0_isLatin1_aae02, some .boolean, RJ0) zps348 zxi348 19 = true := by decide +kernel
set_option maxRecDepth 100000 in
theorem zhc348 : zheadC 348 (zxi348, 1, 1, 13, 348, 0, 0, 2, 0) (yJ0_isLatin1_aae02, cJ0_isLatin1_aae02, some .boolean, RJ0) 0 1014 3043 3044 = true := by decide +kernel
set_option maxRecDepth 100000 in
theorem zh348 : zheadB 348 (zxi348, 1, 1, 13, 348, 0, 0, 2, 0) (yJ0_isLatin1_aae02, cJ0_isLatin1_aae02, some .boolean, RJ0) 0 3045 1014 3043 3044 = true := zheadB_of rfl zhc348
theorem zm348 : zOK 348 (zxi348, 1, 1, 13, 348, 0, 0, 2, 0) (yJ0_isLatin1_aae02, cJ0_isLatin1_aae02, some .boolean, RJ0) := zOK_of2 (len := 19) zh348 zr348 (fun pc h => zguard h)
def zps349 : List (Nat × Nat) := [(2, 3052), (5, 3054)]
set_option maxRecDepth 100000 in
theorem zr349 : zrowsB (yJ0_checkIndex_df160, cJ0_checkIndex_df160, none, RJ0) zps349 zxi349 10 = true := by decide +kernel
set_option maxRecDepth 100000 in
theorem zhc349 : zheadC 349 (zxi349, 2, 2, 13, 349, 0, 0, 0, 0) (yJ0_checkIndex_df160, cJ0_checkIndex_df160, none, RJ0) 2 1014 3050 0 = true := by decide +kernel
set_option maxRecDepth 100000 in
theorem zh349 : zheadB 349 (zxi349, 2, 2, 13, 349, 0, 0, 0, 0) (yJ0_checkIndex_df160, cJ0_checkIndex_df160, none, RJ0) 2 3051 1014 3050 0 = true := zheadB_of rfl zhc349
theorem zm349 : zOK 349 (zxi349, 2, 2, 13, 349, 0, 0, 0, 0) (yJ0_checkIndex_df160, cJ0_checkIndex_df160, none, RJ0) := zOK_of2 (len := 10) zh349 zr349 (fun pc h => zguard h)
def zps350 : List (Nat × Nat) := [(3, 3049)]
set_option maxRecDepth 100000 in
theorem zr350 : zrowsB (yJ1_charAt_3b067, cJ1_charAt_3b067, some .char, RJ1) zps350 zxi350 15 = true := by decide +kernel
set_option maxRecDepth 100000 in
theorem zhc350 : zheadC 350 (zxi350, 2, 2, 14, 350, 0, 0, 5, 0) (yJ1_charAt_3b067, cJ1_charAt_3b067, some .char, RJ1) 2 1015 3047 0 = true := by decide +kernel
set_option maxRecDepth 100000 in
theorem zh350 : zheadB 350 (zxi350, 2, 2, 14, 350, 0, 0, 5, 0) (yJ1_charAt_3b067, cJ1_charAt_3b067, some .char, RJ1) 2 3048 1015 3047 0 = true := zheadB_of rfl zhc350
theorem zm350 : zOK 350 (zxi350, 2, 2, 14, 350, 0, 0, 5, 0) (yJ1_charAt_3b067, cJ1_charAt_3b067, some .char, RJ1) := zOK_of2 (len := 15) zh350 zr350 (fun pc h => zguard h)
def zps351 : List (Nat × Nat) := [(12, 3063)]
set_option maxRecDepth 100000 in
theorem zr351 : zrowsB (yJ2_getChar_3b067, cJ2_getChar_3b067, some .char, RJ2) zps351 zxi351 60 = true := by decide +kernel
set_option maxRecDepth 100000 in
theorem zhc351 : zheadC 351 (zxi351, 2, 2, 15, 351, 0, 0, 5, 0) (yJ2_getChar_3b067, cJ2_getChar_3b067, some .char, RJ2) 2 1017 3068 0 = true := by decide +kernel
set_option maxRecDepth 100000 in
theorem zh351 : zheadB 351 (zxi351, 2, 2, 15, 351, 0, 0, 5, 0) (yJ2_getChar_3b067, cJ2_getChar_3b067, some .char, RJ2) 2 3069 1017 3068 0 = true := zheadB_of rfl zhc351
theorem zm351 : zOK 351 (zxi351, 2, 2, 15, 351, 0, 0, 5, 0) (yJ2_getChar_3b067, cJ2_getChar_3b067, some .char, RJ2) := zOK_of2 (len := 60) zh351 zr351 (fun pc h => zguard h)
def zps352 : List (Nat × Nat) := []
set_option maxRecDepth 100000 in
theorem zr352 : zrowsB (yJ2_length_9d52b, cJ2_length_9d52b, some .int, RJ2) zps352 zxi352 5 = true := by decide +kernel
set_option maxRecDepth 100000 in
theorem zhc352 : zheadC 352 (zxi352, 1, 1, 15, 352, 0, 0, 1, 0) (yJ2_length_9d52b, cJ2_length_9d52b, some .int, RJ2) 2 1017 3064 0 = true := by decide +kernel
set_option maxRecDepth 100000 in
theorem zh352 : zheadB 352 (zxi352, 1, 1, 15, 352, 0, 0, 1, 0) (yJ2_length_9d52b, cJ2_length_9d52b, some .int, RJ2) 2 3065 1017 3064 0 = true := zheadB_of rfl zhc352
theorem zm352 : zOK 352 (zxi352, 1, 1, 15, 352, 0, 0, 1, 0) (yJ2_length_9d52b, cJ2_length_9d52b, some .int, RJ2) := zOK_of2 (len := 5) zh352 zr352 (fun pc h => zguard h)
def zps353 : List (Nat × Nat) := [(2, 3060), (7, 3067)]
set_option maxRecDepth 100000 in
theorem zr353 : zrowsB (yJ2_charAt_3b067, cJ2_charAt_3b067, some .char, RJ2) zps353 zxi353 11 = true := by decide +kernel
set_option maxRecDepth 100000 in
theorem zhc353 : zheadC 353 (zxi353, 2, 2, 15, 353, 0, 0, 5, 0) (yJ2_charAt_3b067, cJ2_charAt_3b067, some .char, RJ2) 2 1017 3058 0 = true := by decide +kernel
set_option maxRecDepth 100000 in
theorem zh353 : zheadB 353 (zxi353, 2, 2, 15, 353, 0, 0, 5, 0) (yJ2_charAt_3b067, cJ2_charAt_3b067, some .char, RJ2) 2 3059 1017 3058 0 = true := zheadB_of rfl zhc353
theorem zm353 : zOK 353 (zxi353, 2, 2, 15, 353, 0, 0, 5, 0) (yJ2_charAt_3b067, cJ2_charAt_3b067, some .char, RJ2) := zOK_of2 (len := 11) zh353 zr353 (fun pc h => zguard h)
def zps354 : List (Nat × Nat) := [(2, 3063), (5, 3066)]
set_option maxRecDepth 100000 in
theorem zr354 : zrowsB (yJ2_checkIndex_2214a, cJ2_checkIndex_2214a, none, RJ2) zps354 zxi354 9 = true := by decide +kernel
set_option maxRecDepth 100000 in
theorem zhc354 : zheadC 354 (zxi354, 2, 2, 15, 354, 0, 0, 0, 0) (yJ2_checkIndex_2214a, cJ2_checkIndex_2214a, none, RJ2) 2 1017 3061 0 = true := by decide +kernel
set_option maxRecDepth 100000 in
theorem zh354 : zheadB 354 (zxi354, 2, 2, 15, 354, 0, 0, 0, 0) (yJ2_checkIndex_2214a, cJ2_checkIndex_2214a, none, RJ2) 2 3062 1017 3061 0 = true := zheadB_of rfl zhc354
theorem zm354 : zOK 354 (zxi354, 2, 2, 15, 354, 0, 0, 0, 0) (yJ2_checkIndex_2214a, cJ2_checkIndex_2214a, none, RJ2) := zOK_of2 (len := 9) zh354 zr354 (fun pc h => zguard h)
def zps355 : List (Nat × Nat) := []
set_option maxRecDepth 100000 in
theorem zr355 : zrowsB (yJ3_checkIndex_8e157, cJ3_checkIndex_8e157, some .int, RJ3) zps355 zxi355 18 = true := by decide +kernel
set_option maxRecDepth 100000 in
theorem zhc355 : zheadC 355 (zxi355, 3, 3, 16, 355, 0, 0, 1, 0) (yJ3_checkIndex_8e157, cJ3_checkIndex_8e157, some .int, RJ3) 2 1016 3055 0 = true := by decide +kernel
set_option maxRecDepth 100000 in
theorem zh355 : zheadB 355 (zxi355, 3, 3, 16, 355, 0, 0, 1, 0) (yJ3_checkIndex_8e157, cJ3_checkIndex_8e157, some .int, RJ3) 2 3056 1016 3055 0 = true := zheadB_of rfl zhc355
theorem zm355 : zOK 355 (zxi355, 3, 3, 16, 355, 0, 0, 1, 0) (yJ3_checkIndex_8e157, cJ3_checkIndex_8e157, some .int, RJ3) := zOK_of2 (len := 18) zh355 zr355 (fun pc h => zguard h)
theorem zc0 : ∀ (i : Nat) (en : zEn), zxMeta0[i]? = some en → ∃ me, zMeth0[i]? = some me ∧ zOK (0 + i) en me := by
  intro i en h
  match i, h with
  | 0, h => cases h; exact ⟨_, rfl, zm0⟩
  | 1, h => cases h; exact ⟨_, rfl, zm1⟩
  | 2, h => cases h; exact ⟨_, rfl, zm2⟩
  | 3, h => cases h; exact ⟨_, rfl, zm3⟩
  | 4, h => cases h; exact ⟨_, rfl, zm4⟩
  | 5, h => cases h; exact ⟨_, rfl, zm5⟩
  | 6, h => cases h; exact ⟨_, rfl, zm6⟩
  | 7, h => cases h; exact ⟨_, rfl, zm7⟩
  | i + 8, h => exact absurd h (by simp [zxMeta0])
theorem zc1 : ∀ (i : Nat) (en : zEn), zxMeta1[i]? = some en → ∃ me, zMeth1[i]? = some me ∧ zOK (8 + i) en me := by
  intro i en h
  match i, h with
  | 0, h => cases h; exact ⟨_, rfl, zm8⟩
  | 1, h => cases h; exact ⟨_, rfl, zm9⟩
  | 2, h => cases h; exact ⟨_, rfl, zm10⟩
  | 3, h => cases h; exact ⟨_, rfl, zm11⟩
  | 4, h => cases h; exact ⟨_, rfl, zm12⟩
  | 5, h => cases h; exact ⟨_, rfl, zm13⟩
  | 6, h => cases h; exact ⟨_, rfl, zm14⟩
  | 7, h => cases h; exact ⟨_, rfl, zm15⟩
  | i + 8, h => exact absurd h (by simp [zxMeta1])
theorem zc2 : ∀ (i : Nat) (en : zEn), zxMeta2[i]? = some en → ∃ me, zMeth2[i]? = some me ∧ zOK (16 + i) en me := by
  intro i en h
  match i, h with
  | 0, h => cases h; exact ⟨_, rfl, zm16⟩
  | 1, h => cases h; exact ⟨_, rfl, zm17⟩
  | 2, h => cases h; exact ⟨_, rfl, zm18⟩
  | 3, h => cases h; exact ⟨_, rfl, zm19⟩
  | 4, h => cases h; exact ⟨_, rfl, zm20⟩
  | 5, h => cases h; exact ⟨_, rfl, zm21⟩
  | 6, h => cases h; exact ⟨_, rfl, zm22⟩
  | 7, h => cases h; exact ⟨_, rfl, zm23⟩
  | i + 8, h => exact absurd h (by simp [zxMeta2])
theorem zc3 : ∀ (i : Nat) (en : zEn), zxMeta3[i]? = some en → ∃ me, zMeth3[i]? = some me ∧ zOK (24 + i) en me := by
  intro i en h
  match i, h with
  | 0, h => cases h; exact ⟨_, rfl, zm24⟩
  | 1, h => cases h; exact ⟨_, rfl, zm25⟩
  | 2, h => cases h; exact ⟨_, rfl, zm26⟩
  | 3, h => cases h; exact ⟨_, rfl, zm27⟩
  | 4, h => cases h; exact ⟨_, rfl, zm28⟩
  | 5, h => cases h; exact ⟨_, rfl, zm29⟩
  | 6, h => cases h; exact ⟨_, rfl, zm30⟩
  | 7, h => cases h; exact ⟨_, rfl, zm31⟩
  | i + 8, h => exact absurd h (by simp [zxMeta3])
theorem zc4 : ∀ (i : Nat) (en : zEn), zxMeta4[i]? = some en → ∃ me, zMeth4[i]? = some me ∧ zOK (32 + i) en me := by
  intro i en h
  match i, h with
  | 0, h => cases h; exact ⟨_, rfl, zm32⟩
  | 1, h => cases h; exact ⟨_, rfl, zm33⟩
  | 2, h => cases h; exact ⟨_, rfl, zm34⟩
  | 3, h => cases h; exact ⟨_, rfl, zm35⟩
  | 4, h => cases h; exact ⟨_, rfl, zm36⟩
  | 5, h => cases h; exact ⟨_, rfl, zm37⟩
  | 6, h => cases h; exact ⟨_, rfl, zm38⟩
  | 7, h => cases h; exact ⟨_, rfl, zm39⟩
  | i + 8, h => exact absurd h (by simp [zxMeta4])
theorem zc5 : ∀ (i : Nat) (en : zEn), zxMeta5[i]? = some en → ∃ me, zMeth5[i]? = some me ∧ zOK (40 + i) en me := by
  intro i en h
  match i, h with
  | 0, h => cases h; exact ⟨_, rfl, zm40⟩
  | 1, h => cases h; exact ⟨_, rfl, zm41⟩
  | 2, h => cases h; exact ⟨_, rfl, zm42⟩
  | 3, h => cases h; exact ⟨_, rfl, zm43⟩
  | 4, h => cases h; exact ⟨_, rfl, zm44⟩
  | 5, h => cases h; exact ⟨_, rfl, zm45⟩
  | 6, h => cases h; exact ⟨_, rfl, zm46⟩
  | 7, h => cases h; exact ⟨_, rfl, zm47⟩
  | i + 8, h => exact absurd h (by simp [zxMeta5])
theorem zc6 : ∀ (i : Nat) (en : zEn), zxMeta6[i]? = some en → ∃ me, zMeth6[i]? = some me ∧ zOK (48 + i) en me := by
  intro i en h
  match i, h with
  | 0, h => cases h; exact ⟨_, rfl, zm48⟩
  | 1, h => cases h; exact ⟨_, rfl, zm49⟩
  | 2, h => cases h; exact ⟨_, rfl, zm50⟩
  | 3, h => cases h; exact ⟨_, rfl, zm51⟩
  | 4, h => cases h; exact ⟨_, rfl, zm52⟩
  | 5, h => cases h; exact ⟨_, rfl, zm53⟩
  | 6, h => cases h; exact ⟨_, rfl, zm54⟩
  | 7, h => cases h; exact ⟨_, rfl, zm55⟩
  | i + 8, h => exact absurd h (by simp [zxMeta6])
theorem zc7 : ∀ (i : Nat) (en : zEn), zxMeta7[i]? = some en → ∃ me, zMeth7[i]? = some me ∧ zOK (56 + i) en me := by
  intro i en h
  match i, h with
  | 0, h => cases h; exact ⟨_, rfl, zm56⟩
  | 1, h => cases h; exact ⟨_, rfl, zm57⟩
  | 2, h => cases h; exact ⟨_, rfl, zm58⟩
  | 3, h => cases h; exact ⟨_, rfl, zm59⟩
  | 4, h => cases h; exact ⟨_, rfl, zm60⟩
  | 5, h => cases h; exact ⟨_, rfl, zm61⟩
  | 6, h => cases h; exact ⟨_, rfl, zm62⟩
  | 7, h => cases h; exact ⟨_, rfl, zm63⟩
  | i + 8, h => exact absurd h (by simp [zxMeta7])
theorem zc8 : ∀ (i : Nat) (en : zEn), zxMeta8[i]? = some en → ∃ me, zMeth8[i]? = some me ∧ zOK (64 + i) en me := by
  intro i en h
  match i, h with
  | 0, h => cases h; exact ⟨_, rfl, zm64⟩
  | 1, h => cases h; exact ⟨_, rfl, zm65⟩
  | 2, h => cases h; exact ⟨_, rfl, zm66⟩
  | 3, h => cases h; exact ⟨_, rfl, zm67⟩
  | 4, h => cases h; exact ⟨_, rfl, zm68⟩
  | 5, h => cases h; exact ⟨_, rfl, zm69⟩
  | 6, h => cases h; exact ⟨_, rfl, zm70⟩
  | 7, h => cases h; exact ⟨_, rfl, zm71⟩
  | i + 8, h => exact absurd h (by simp [zxMeta8])
theorem zc9 : ∀ (i : Nat) (en : zEn), zxMeta9[i]? = some en → ∃ me, zMeth9[i]? = some me ∧ zOK (72 + i) en me := by
  intro i en h
  match i, h with
  | 0, h => cases h; exact ⟨_, rfl, zm72⟩
  | 1, h => cases h; exact ⟨_, rfl, zm73⟩
  | 2, h => cases h; exact ⟨_, rfl, zm74⟩
  | 3, h => cases h; exact ⟨_, rfl, zm75⟩
  | 4, h => cases h; exact ⟨_, rfl, zm76⟩
  | 5, h => cases h; exact ⟨_, rfl, zm77⟩
  | 6, h => cases h; exact ⟨_, rfl, zm78⟩
  | 7, h => cases h; exact ⟨_, rfl, zm79⟩
  | i + 8, h => exact absurd h (by simp [zxMeta9])
theorem zc10 : ∀ (i : Nat) (en : zEn), zxMeta10[i]? = some en → ∃ me, zMeth10[i]? = some me ∧ zOK (80 + i) en me := by
  intro i en h
  match i, h with
  | 0, h => cases h; exact ⟨_, rfl, zm80⟩
  | 1, h => cases h; exact ⟨_, rfl, zm81⟩
  | 2, h => cases h; exact ⟨_, rfl, zm82⟩
  | 3, h => cases h; exact ⟨_, rfl, zm83⟩
  | 4, h => cases h; exact ⟨_, rfl, zm84⟩
  | 5, h => cases h; exact ⟨_, rfl, zm85⟩
  | 6, h => cases h; exact ⟨_, rfl, zm86⟩
  | 7, h => cases h; exact ⟨_, rfl, zm87⟩
  | i + 8, h => exact absurd h (by simp [zxMeta10])
theorem zc11 : ∀ (i : Nat) (en : zEn), zxMeta11[i]? = some en → ∃ me, zMeth11[i]? = some me ∧ zOK (88 + i) en me := by
  intro i en h
  match i, h with
  | 0, h => cases h; exact ⟨_, rfl, zm88⟩
  | 1, h => cases h; exact ⟨_, rfl, zm89⟩
  | 2, h => cases h; exact ⟨_, rfl, zm90⟩
  | 3, h => cases h; exact ⟨_, rfl, zm91⟩
  | 4, h => cases h; exact ⟨_, rfl, zm92⟩
  | 5, h => cases h; exact ⟨_, rfl, zm93⟩
  | 6, h => cases h; exact ⟨_, rfl, zm94⟩
  | 7, h => cases h; exact ⟨_, rfl, zm95⟩
  | i + 8, h => exact absurd h (by simp [zxMeta11])
theorem zc12 : ∀ (i : Nat) (en : zEn), zxMeta12[i]? = some en → ∃ me, zMeth12[i]? = some me ∧ zOK (96 + i) en me := by
  intro i en h
  match i, h with
  | 0, h => cases h; exact ⟨_, rfl, zm96⟩
  | 1, h => cases h; exact ⟨_, rfl, zm97⟩
  | 2, h => cases h; exact ⟨_, rfl, zm98⟩
  | 3, h => cases h; exact ⟨_, rfl, zm99⟩
  | 4, h => cases h; exact ⟨_, rfl, zm100⟩
  | 5, h => cases h; exact ⟨_, rfl, zm101⟩
  | 6, h => cases h; exact ⟨_, rfl, zm102⟩
  | 7, h => cases h; exact ⟨_, rfl, zm103⟩
  | i + 8, h => exact absurd h (by simp [zxMeta12])
theorem zc13 : ∀ (i : Nat) (en : zEn), zxMeta13[i]? = some en → ∃ me, zMeth13[i]? = some me ∧ zOK (104 + i) en me := by
  intro i en h
  match i, h with
  | 0, h => cases h; exact ⟨_, rfl, zm104⟩
  | 1, h => cases h; exact ⟨_, rfl, zm105⟩
  | 2, h => cases h; exact ⟨_, rfl, zm106⟩
  | 3, h => cases h; exact ⟨_, rfl, zm107⟩
  | 4, h => cases h; exact ⟨_, rfl, zm108⟩
  | 5, h => cases h; exact ⟨_, rfl, zm109⟩
  | 6, h => cases h; exact ⟨_, rfl, zm110⟩
  | 7, h => cases h; exact ⟨_, rfl, zm111⟩
  | i + 8, h => exact absurd h (by simp [zxMeta13])
theorem zc14 : ∀ (i : Nat) (en : zEn), zxMeta14[i]? = some en → ∃ me, zMeth14[i]? = some me ∧ zOK (112 + i) en me := by
  intro i en h
  match i, h with
  | 0, h => cases h; exact ⟨_, rfl, zm112⟩
  | 1, h => cases h; exact ⟨_, rfl, zm113⟩
  | 2, h => cases h; exact ⟨_, rfl, zm114⟩
  | 3, h => cases h; exact ⟨_, rfl, zm115⟩
  | 4, h => cases h; exact ⟨_, rfl, zm116⟩
  | 5, h => cases h; exact ⟨_, rfl, zm117⟩
  | 6, h => cases h; exact ⟨_, rfl, zm118⟩
  | 7, h => cases h; exact ⟨_, rfl, zm119⟩
  | i + 8, h => exact absurd h (by simp [zxMeta14])
theorem zc15 : ∀ (i : Nat) (en : zEn), zxMeta15[i]? = some en → ∃ me, zMeth15[i]? = some me ∧ zOK (120 + i) en me := by
  intro i en h
  match i, h with
  | 0, h => cases h; exact ⟨_, rfl, zm120⟩
  | 1, h => cases h; exact ⟨_, rfl, zm121⟩
  | 2, h => cases h; exact ⟨_, rfl, zm122⟩
  | 3, h => cases h; exact ⟨_, rfl, zm123⟩
  | 4, h => cases h; exact ⟨_, rfl, zm124⟩
  | 5, h => cases h; exact ⟨_, rfl, zm125⟩
  | 6, h => cases h; exact ⟨_, rfl, zm126⟩
  | 7, h => cases h; exact ⟨_, rfl, zm127⟩
  | i + 8, h => exact absurd h (by simp [zxMeta15])
theorem zc16 : ∀ (i : Nat) (en : zEn), zxMeta16[i]? = some en → ∃ me, zMeth16[i]? = some me ∧ zOK (128 + i) en me := by
  intro i en h
  match i, h with
  | 0, h => cases h; exact ⟨_, rfl, zm128⟩
  | 1, h => cases h; exact ⟨_, rfl, zm129⟩
  | 2, h => cases h; exact ⟨_, rfl, zm130⟩
  | 3, h => cases h; exact ⟨_, rfl, zm131⟩
  | 4, h => cases h; exact ⟨_, rfl, zm132⟩
  | 5, h => cases h; exact ⟨_, rfl, zm133⟩
  | 6, h => cases h; exact ⟨_, rfl, zm134⟩
  | 7, h => cases h; exact ⟨_, rfl, zm135⟩
  | i + 8, h => exact absurd h (by simp [zxMeta16])
theorem zc17 : ∀ (i : Nat) (en : zEn), zxMeta17[i]? = some en → ∃ me, zMeth17[i]? = some me ∧ zOK (136 + i) en me := by
  intro i en h
  match i, h with
  | 0, h => cases h; exact ⟨_, rfl, zm136⟩
  | 1, h => cases h; exact ⟨_, rfl, zm137⟩
  | 2, h => cases h; exact ⟨_, rfl, zm138⟩
  | 3, h => cases h; exact ⟨_, rfl, zm139⟩
  | 4, h => cases h; exact ⟨_, rfl, zm140⟩
  | 5, h => cases h; exact ⟨_, rfl, zm141⟩
  | 6, h => cases h; exact ⟨_, rfl, zm142⟩
  | 7, h => cases h; exact ⟨_, rfl, zm143⟩
  | i + 8, h => exact absurd h (by simp [zxMeta17])
theorem zc18 : ∀ (i : Nat) (en : zEn), zxMeta18[i]? = some en → ∃ me, zMeth18[i]? = some me ∧ zOK (144 + i) en me := by
  intro i en h
  match i, h with
  | 0, h => cases h; exact ⟨_, rfl, zm144⟩
  | 1, h => cases h; exact ⟨_, rfl, zm145⟩
  | 2, h => cases h; exact ⟨_, rfl, zm146⟩
  | 3, h => cases h; exact ⟨_, rfl, zm147⟩
  | 4, h => cases h; exact ⟨_, rfl, zm148⟩
  | 5, h => cases h; exact ⟨_, rfl, zm149⟩
  | 6, h => cases h; exact ⟨_, rfl, zm150⟩
  | 7, h => cases h; exact ⟨_, rfl, zm151⟩
  | i + 8, h => exact absurd h (by simp [zxMeta18])
theorem zc19 : ∀ (i : Nat) (en : zEn), zxMeta19[i]? = some en → ∃ me, zMeth19[i]? = some me ∧ zOK (152 + i) en me := by
  intro i en h
  match i, h with
  | 0, h => cases h; exact ⟨_, rfl, zm152⟩
  | 1, h => cases h; exact ⟨_, rfl, zm153⟩
  | 2, h => cases h; exact ⟨_, rfl, zm154⟩
  | 3, h => cases h; exact ⟨_, rfl, zm155⟩
  | 4, h => cases h; exact ⟨_, rfl, zm156⟩
  | 5, h => cases h; exact ⟨_, rfl, zm157⟩
  | 6, h => cases h; exact ⟨_, rfl, zm158⟩
  | 7, h => cases h; exact ⟨_, rfl, zm159⟩
  | i + 8, h => exact absurd h (by simp [zxMeta19])
theorem zc20 : ∀ (i : Nat) (en : zEn), zxMeta20[i]? = some en → ∃ me, zMeth20[i]? = some me ∧ zOK (160 + i) en me := by
  intro i en h
  match i, h with
  | 0, h => cases h; exact ⟨_, rfl, zm160⟩
  | 1, h => cases h; exact ⟨_, rfl, zm161⟩
  | 2, h => cases h; exact ⟨_, rfl, zm162⟩
  | 3, h => cases h; exact ⟨_, rfl, zm163⟩
  | 4, h => cases h; exact ⟨_, rfl, zm164⟩
  | 5, h => cases h; exact ⟨_, rfl, zm165⟩
  | 6, h => cases h; exact ⟨_, rfl, zm166⟩
  | 7, h => cases h; exact ⟨_, rfl, zm167⟩
  | i + 8, h => exact absurd h (by simp [zxMeta20])
theorem zc21 : ∀ (i : Nat) (en : zEn), zxMeta21[i]? = some en → ∃ me, zMeth21[i]? = some me ∧ zOK (168 + i) en me := by
  intro i en h
  match i, h with
  | 0, h => cases h; exact ⟨_, rfl, zm168⟩
  | 1, h => cases h; exact ⟨_, rfl, zm169⟩
  | 2, h => cases h; exact ⟨_, rfl, zm170⟩
  | 3, h => cases h; exact ⟨_, rfl, zm171⟩
  | 4, h => cases h; exact ⟨_, rfl, zm172⟩
  | 5, h => cases h; exact ⟨_, rfl, zm173⟩
  | 6, h => cases h; exact ⟨_, rfl, zm174⟩
  | 7, h => cases h; exact ⟨_, rfl, zm175⟩
  | i + 8, h => exact absurd h (by simp [zxMeta21])
theorem zc22 : ∀ (i : Nat) (en : zEn), zxMeta22[i]? = some en → ∃ me, zMeth22[i]? = some me ∧ zOK (176 + i) en me := by
  intro i en h
  match i, h with
  | 0, h => cases h; exact ⟨_, rfl, zm176⟩
  | 1, h => cases h; exact ⟨_, rfl, zm177⟩
  | 2, h => cases h; exact ⟨_, rfl, zm178⟩
  | 3, h => cases h; exact ⟨_, rfl, zm179⟩
  | 4, h => cases h; exact ⟨_, rfl, zm180⟩
  | 5, h => cases h; exact ⟨_, rfl, zm181⟩
  | 6, h => cases h; exact ⟨_, rfl, zm182⟩
  | 7, h => cases h; exact ⟨_, rfl, zm183⟩
  | i + 8, h => exact absurd h (by simp [zxMeta22])
theorem zc23 : ∀ (i : Nat) (en : zEn), zxMeta23[i]? = some en → ∃ me, zMeth23[i]? = some me ∧ zOK (184 + i) en me := by
  intro i en h
  match i, h with
  | 0, h => cases h; exact ⟨_, rfl, zm184⟩
  | 1, h => cases h; exact ⟨_, rfl, zm185⟩
  | 2, h => cases h; exact ⟨_, rfl, zm186⟩
  | 3, h => cases h; exact ⟨_, rfl, zm187⟩
  | 4, h => cases h; exact ⟨_, rfl, zm188⟩
  | 5, h => cases h; exact ⟨_, rfl, zm189⟩
  | 6, h => cases h; exact ⟨_, rfl, zm190⟩
  | 7, h => cases h; exact ⟨_, rfl, zm191⟩
  | i + 8, h => exact absurd h (by simp [zxMeta23])
theorem zc24 : ∀ (i : Nat) (en : zEn), zxMeta24[i]? = some en → ∃ me, zMeth24[i]? = some me ∧ zOK (192 + i) en me := by
  intro i en h
  match i, h with
  | 0, h => cases h; exact ⟨_, rfl, zm192⟩
  | 1, h => cases h; exact ⟨_, rfl, zm193⟩
  | 2, h => cases h; exact ⟨_, rfl, zm194⟩
  | 3, h => cases h; exact ⟨_, rfl, zm195⟩
  | 4, h => cases h; exact ⟨_, rfl, zm196⟩
  | 5, h => cases h; exact ⟨_, rfl, zm197⟩
  | 6, h => cases h; exact ⟨_, rfl, zm198⟩
  | 7, h => cases h; exact ⟨_, rfl, zm199⟩
  | i + 8, h => exact absurd h (by simp [zxMeta24])
theorem zc25 : ∀ (i : Nat) (en : zEn), zxMeta25[i]? = some en → ∃ me, zMeth25[i]? = some me ∧ zOK (200 + i) en me := by
  intro i en h
  match i, h with
  | 0, h => cases h; exact ⟨_, rfl, zm200⟩
  | 1, h => cases h; exact ⟨_, rfl, zm201⟩
  | 2, h => cases h; exact ⟨_, rfl, zm202⟩
  | 3, h => cases h; exact ⟨_, rfl, zm203⟩
  | 4, h => cases h; exact ⟨_, rfl, zm204⟩
  | 5, h => cases h; exact ⟨_, rfl, zm205⟩
  | 6, h => cases h; exact ⟨_, rfl, zm206⟩
  | 7, h => cases h; exact ⟨_, rfl, zm207⟩
  | i + 8, h => exact absurd h (by simp [zxMeta25])
theorem zc26 : ∀ (i : Nat) (en : zEn), zxMeta26[i]? = some en → ∃ me, zMeth26[i]? = some me ∧ zOK (208 + i) en me := by
  intro i en h
  match i, h with
  | 0, h => cases h; exact ⟨_, rfl, zm208⟩
  | 1, h => cases h; exact ⟨_, rfl, zm209⟩
  | 2, h => cases h; exact ⟨_, rfl, zm210⟩
  | 3, h => cases h; exact ⟨_, rfl, zm211⟩
  | 4, h => cases h; exact ⟨_, rfl, zm212⟩
  | 5, h => cases h; exact ⟨_, rfl, zm213⟩
  | 6, h => cases h; exact ⟨_, rfl, zm214⟩
  | 7, h => cases h; exact ⟨_, rfl, zm215⟩
  | i + 8, h => exact absurd h (by simp [zxMeta26])
theorem zc27 : ∀ (i : Nat) (en : zEn), zxMeta27[i]? = some en → ∃ me, zMeth27[i]? = some me ∧ zOK (216 + i) en me := by
  intro i en h
  match i, h with
  | 0, h => cases h; exact ⟨_, rfl, zm216⟩
  | 1, h => cases h; exact ⟨_, rfl, zm217⟩
  | 2, h => cases h; exact ⟨_, rfl, zm218⟩
  | 3, h => cases h; exact ⟨_, rfl, zm219⟩
  | 4, h => cases h; exact ⟨_, rfl, zm220⟩
  | 5, h => cases h; exact ⟨_, rfl, zm221⟩
  | 6, h => cases h; exact ⟨_, rfl, zm222⟩
  | 7, h => cases h; exact ⟨_, rfl, zm223⟩
  | i + 8, h => exact absurd h (by simp [zxMeta27])
theorem zc28 : ∀ (i : Nat) (en : zEn), zxMeta28[i]? = some en → ∃ me, zMeth28[i]? = some me ∧ zOK (224 + i) en me := by
  intro i en h
  match i, h with
  | 0, h => cases h; exact ⟨_, rfl, zm224⟩
  | 1, h => cases h; exact ⟨_, rfl, zm225⟩
  | 2, h => cases h; exact ⟨_, rfl, zm226⟩
  | 3, h => cases h; exact ⟨_, rfl, zm227⟩
  | 4, h => cases h; exact ⟨_, rfl, zm228⟩
  | 5, h => cases h; exact ⟨_, rfl, zm229⟩
  | 6, h => cases h; exact ⟨_, rfl, zm230⟩
  | 7, h => cases h; exact ⟨_, rfl, zm231⟩
  | i + 8, h => exact absurd h (by simp [zxMeta28])
theorem zc29 : ∀ (i : Nat) (en : zEn), zxMeta29[i]? = some en → ∃ me, zMeth29[i]? = some me ∧ zOK (232 + i) en me := by
  intro i en h
  match i, h with
  | 0, h => cases h; exact ⟨_, rfl, zm232⟩
  | 1, h => cases h; exact ⟨_, rfl, zm233⟩
  | 2, h => cases h; exact ⟨_, rfl, zm234⟩
  | 3, h => cases h; exact ⟨_, rfl, zm235⟩
  | 4, h => cases h; exact ⟨_, rfl, zm236⟩
  | 5, h => cases h; exact ⟨_, rfl, zm237⟩
  | 6, h => cases h; exact ⟨_, rfl, zm238⟩
  | 7, h => cases h; exact ⟨_, rfl, zm239⟩
  | i + 8, h => exact absurd h (by simp [zxMeta29])
theorem zc30 : ∀ (i : Nat) (en : zEn), zxMeta30[i]? = some en → ∃ me, zMeth30[i]? = some me ∧ zOK (240 + i) en me := by
  intro i en h
  match i, h with
  | 0, h => cases h; exact ⟨_, rfl, zm240⟩
  | 1, h => cases h; exact ⟨_, rfl, zm241⟩
  | 2, h => cases h; exact ⟨_, rfl, zm242⟩
  | 3, h => cases h; exact ⟨_, rfl, zm243⟩
  | 4, h => cases h; exact ⟨_, rfl, zm244⟩
  | 5, h => cases h; exact ⟨_, rfl, zm245⟩
  | 6, h => cases h; exact ⟨_, rfl, zm246⟩
  | 7, h => cases h; exact ⟨_, rfl, zm247⟩
  | i + 8, h => exact absurd h (by simp [zxMeta30])
theorem zc31 : ∀ (i : Nat) (en : zEn), zxMeta31[i]? = some en → ∃ me, zMeth31[i]? = some me ∧ zOK (248 + i) en me := by
  intro i en h
  match i, h with
  | 0, h => cases h; exact ⟨_, rfl, zm248⟩
  | 1, h => cases h; exact ⟨_, rfl, zm249⟩
  | 2, h => cases h; exact ⟨_, rfl, zm250⟩
  | 3, h => cases h; exact ⟨_, rfl, zm251⟩
  | 4, h => cases h; exact ⟨_, rfl, zm252⟩
  | 5, h => cases h; exact ⟨_, rfl, zm253⟩
  | 6, h => cases h; exact ⟨_, rfl, zm254⟩
  | 7, h => cases h; exact ⟨_, rfl, zm255⟩
  | i + 8, h => exact absurd h (by simp [zxMeta31])
theorem zc32 : ∀ (i : Nat) (en : zEn), zxMeta32[i]? = some en → ∃ me, zMeth32[i]? = some me ∧ zOK (256 + i) en me := by
  intro i en h
  match i, h with
  | 0, h => cases h; exact ⟨_, rfl, zm256⟩
  | 1, h => cases h; exact ⟨_, rfl, zm257⟩
  | 2, h => cases h; exact ⟨_, rfl, zm258⟩
  | 3, h => cases h; exact ⟨_, rfl, zm259⟩
  | 4, h => cases h; exact ⟨_, rfl, zm260⟩
  | 5, h => cases h; exact ⟨_, rfl, zm261⟩
  | 6, h => cases h; exact ⟨_, rfl, zm262⟩
  | 7, h => cases h; exact ⟨_, rfl, zm263⟩
  | i + 8, h => exact absurd h (by simp [zxMeta32])
theorem zc33 : ∀ (i : Nat) (en : zEn), zxMeta33[i]? = some en → ∃ me, zMeth33[i]? = some me ∧ zOK (264 + i) en me := by
  intro i en h
  match i, h with
  | 0, h => cases h; exact ⟨_, rfl, zm264⟩
  | 1, h => cases h; exact ⟨_, rfl, zm265⟩
  | 2, h => cases h; exact ⟨_, rfl, zm266⟩
  | 3, h => cases h; exact ⟨_, rfl, zm267⟩
  | 4, h => cases h; exact ⟨_, rfl, zm268⟩
  | 5, h => cases h; exact ⟨_, rfl, zm269⟩
  | 6, h => cases h; exact ⟨_, rfl, zm270⟩
  | 7, h => cases h; exact ⟨_, rfl, zm271⟩
  | i + 8, h => exact absurd h (by simp [zxMeta33])
theorem zc34 : ∀ (i : Nat) (en : zEn), zxMeta34[i]? = some en → ∃ me, zMeth34[i]? = some me ∧ zOK (272 + i) en me := by
  intro i en h
  match i, h with
  | 0, h => cases h; exact ⟨_, rfl, zm272⟩
  | 1, h => cases h; exact ⟨_, rfl, zm273⟩
  | 2, h => cases h; exact ⟨_, rfl, zm274⟩
  | 3, h => cases h; exact ⟨_, rfl, zm275⟩
  | 4, h => cases h; exact ⟨_, rfl, zm276⟩
  | 5, h => cases h; exact ⟨_, rfl, zm277⟩
  | 6, h => cases h; exact ⟨_, rfl, zm278⟩
  | 7, h => cases h; exact ⟨_, rfl, zm279⟩
  | i + 8, h => exact absurd h (by simp [zxMeta34])
theorem zc35 : ∀ (i : Nat) (en : zEn), zxMeta35[i]? = some en → ∃ me, zMeth35[i]? = some me ∧ zOK (280 + i) en me := by
  intro i en h
  match i, h with
  | 0, h => cases h; exact ⟨_, rfl, zm280⟩
  | 1, h => cases h; exact ⟨_, rfl, zm281⟩
  | 2, h => cases h; exact ⟨_, rfl, zm282⟩
  | 3, h => cases h; exact ⟨_, rfl, zm283⟩
  | 4, h => cases h; exact ⟨_, rfl, zm284⟩
  | 5, h => cases h; exact ⟨_, rfl, zm285⟩
  | 6, h => cases h; exact ⟨_, rfl, zm286⟩
  | 7, h => cases h; exact ⟨_, rfl, zm287⟩
  | i + 8, h => exact absurd h (by simp [zxMeta35])
theorem zc36 : ∀ (i : Nat) (en : zEn), zxMeta36[i]? = some en → ∃ me, zMeth36[i]? = some me ∧ zOK (288 + i) en me := by
  intro i en h
  match i, h with
  | 0, h => cases h; exact ⟨_, rfl, zm288⟩
  | 1, h => cases h; exact ⟨_, rfl, zm289⟩
  | 2, h => cases h; exact ⟨_, rfl, zm290⟩
  | 3, h => cases h; exact ⟨_, rfl, zm291⟩
  | 4, h => cases h; exact ⟨_, rfl, zm292⟩
  | 5, h => cases h; exact ⟨_, rfl, zm293⟩
  | 6, h => cases h; exact ⟨_, rfl, zm294⟩
  | 7, h => cases h; exact ⟨_, rfl, zm295⟩
  | i + 8, h => exact absurd h (by simp [zxMeta36])
theorem zc37 : ∀ (i : Nat) (en : zEn), zxMeta37[i]? = some en → ∃ me, zMeth37[i]? = some me ∧ zOK (296 + i) en me := by
  intro i en h
  match i, h with
  | 0, h => cases h; exact ⟨_, rfl, zm296⟩
  | 1, h => cases h; exact ⟨_, rfl, zm297⟩
  | 2, h => cases h; exact ⟨_, rfl, zm298⟩
  | 3, h => cases h; exact ⟨_, rfl, zm299⟩
  | 4, h => cases h; exact ⟨_, rfl, zm300⟩
  | 5, h => cases h; exact ⟨_, rfl, zm301⟩
  | 6, h => cases h; exact ⟨_, rfl, zm302⟩
  | 7, h => cases h; exact ⟨_, rfl, zm303⟩
  | i + 8, h => exact absurd h (by simp [zxMeta37])
theorem zc38 : ∀ (i : Nat) (en : zEn), zxMeta38[i]? = some en → ∃ me, zMeth38[i]? = some me ∧ zOK (304 + i) en me := by
  intro i en h
  match i, h with
  | 0, h => cases h; exact ⟨_, rfl, zm304⟩
  | 1, h => cases h; exact ⟨_, rfl, zm305⟩
  | 2, h => cases h; exact ⟨_, rfl, zm306⟩
  | 3, h => cases h; exact ⟨_, rfl, zm307⟩
  | 4, h => cases h; exact ⟨_, rfl, zm308⟩
  | 5, h => cases h; exact ⟨_, rfl, zm309⟩
  | 6, h => cases h; exact ⟨_, rfl, zm310⟩
  | 7, h => cases h; exact ⟨_, rfl, zm311⟩
  | i + 8, h => exact absurd h (by simp [zxMeta38])
theorem zc39 : ∀ (i : Nat) (en : zEn), zxMeta39[i]? = some en → ∃ me, zMeth39[i]? = some me ∧ zOK (312 + i) en me := by
  intro i en h
  match i, h with
  | 0, h => cases h; exact ⟨_, rfl, zm312⟩
  | 1, h => cases h; exact ⟨_, rfl, zm313⟩
  | 2, h => cases h; exact ⟨_, rfl, zm314⟩
  | 3, h => cases h; exact ⟨_, rfl, zm315⟩
  | 4, h => cases h; exact ⟨_, rfl, zm316⟩
  | 5, h => cases h; exact ⟨_, rfl, zm317⟩
  | 6, h => cases h; exact ⟨_, rfl, zm318⟩
  | 7, h => cases h; exact ⟨_, rfl, zm319⟩
  | i + 8, h => exact absurd h (by simp [zxMeta39])
theorem zc40 : ∀ (i : Nat) (en : zEn), zxMeta40[i]? = some en → ∃ me, zMeth40[i]? = some me ∧ zOK (320 + i) en me := by
  intro i en h
  match i, h with
  | 0, h => cases h; exact ⟨_, rfl, zm320⟩
  | 1, h => cases h; exact ⟨_, rfl, zm321⟩
  | 2, h => cases h; exact ⟨_, rfl, zm322⟩
  | 3, h => cases h; exact ⟨_, rfl, zm323⟩
  | 4, h => cases h; exact ⟨_, rfl, zm324⟩
  | 5, h => cases h; exact ⟨_, rfl, zm325⟩
  | 6, h => cases h; exact ⟨_, rfl, zm326⟩
  | 7, h => cases h; exact ⟨_, rfl, zm327⟩
  | i + 8, h => exact absurd h (by simp [zxMeta40])
theorem zc41 : ∀ (i : Nat) (en : zEn), zxMeta41[i]? = some en → ∃ me, zMeth41[i]? = some me ∧ zOK (328 + i) en me := by
  intro i en h
  match i, h with
  | 0, h => cases h; exact ⟨_, rfl, zm328⟩
  | 1, h => cases h; exact ⟨_, rfl, zm329⟩
  | 2, h => cases h; exact ⟨_, rfl, zm330⟩
  | 3, h => cases h; exact ⟨_, rfl, zm331⟩
  | 4, h => cases h; exact ⟨_, rfl, zm332⟩
  | 5, h => cases h; exact ⟨_, rfl, zm333⟩
  | 6, h => cases h; exact ⟨_, rfl, zm334⟩
  | 7, h => cases h; exact ⟨_, rfl, zm335⟩
  | i + 8, h => exact absurd h (by simp [zxMeta41])
theorem zc42 : ∀ (i : Nat) (en : zEn), zxMeta42[i]? = some en → ∃ me, zMeth42[i]? = some me ∧ zOK (336 + i) en me := by
  intro i en h
  match i, h with
  | 0, h => cases h; exact ⟨_, rfl, zm336⟩
  | 1, h => cases h; exact ⟨_, rfl, zm337⟩
  | 2, h => cases h; exact ⟨_, rfl, zm338⟩
  | 3, h => cases h; exact ⟨_, rfl, zm339⟩
  | 4, h => cases h; exact ⟨_, rfl, zm340⟩
  | 5, h => cases h; exact ⟨_, rfl, zm341⟩
  | 6, h => cases h; exact ⟨_, rfl, zm342⟩
  | 7, h => cases h; exact ⟨_, rfl, zm343⟩
  | i + 8, h => exact absurd h (by simp [zxMeta42])
theorem zc43 : ∀ (i : Nat) (en : zEn), zxMeta43[i]? = some en → ∃ me, zMeth43[i]? = some me ∧ zOK (344 + i) en me := by
  intro i en h
  match i, h with
  | 0, h => cases h; exact ⟨_, rfl, zm344⟩
  | 1, h => cases h; exact ⟨_, rfl, zm345⟩
  | 2, h => cases h; exact ⟨_, rfl, zm346⟩
  | 3, h => cases h; exact ⟨_, rfl, zm347⟩
  | 4, h => cases h; exact ⟨_, rfl, zm348⟩
  | 5, h => cases h; exact ⟨_, rfl, zm349⟩
  | 6, h => cases h; exact ⟨_, rfl, zm350⟩
  | 7, h => cases h; exact ⟨_, rfl, zm351⟩
  | i + 8, h => exact absurd h (by simp [zxMeta43])
theorem zc44 : ∀ (i : Nat) (en : zEn), zxMeta44[i]? = some en → ∃ me, zMeth44[i]? = some me ∧ zOK (352 + i) en me := by
  intro i en h
  match i, h with
  | 0, h => cases h; exact ⟨_, rfl, zm352⟩
  | 1, h => cases h; exact ⟨_, rfl, zm353⟩
  | 2, h => cases h; exact ⟨_, rfl, zm354⟩
  | 3, h => cases h; exact ⟨_, rfl, zm355⟩
  | i + 4, h => exact absurd h (by simp [zxMeta44])
theorem zd0 : ∀ (u i : Nat) (a : List zEn) (en : zEn), [zxMeta0, zxMeta1, zxMeta2, zxMeta3, zxMeta4, zxMeta5, zxMeta6, zxMeta7][u]? = some a → a[i]? = some en → ∃ b me, [zMeth0, zMeth1, zMeth2, zMeth3, zMeth4, zMeth5, zMeth6, zMeth7][u]? = some b ∧ b[i]? = some me ∧ zOK (0 + 8 * u + i) en me := by
  intro u i a en h1 h2
  match u, h1 with
  | 0, h1 => cases h1; obtain ⟨me, g1, g2⟩ := zc0 i en h2; exact ⟨_, me, rfl, g1, g2⟩
  | 1, h1 => cases h1; obtain ⟨me, g1, g2⟩ := zc1 i en h2; exact ⟨_, me, rfl, g1, g2⟩
  | 2, h1 => cases h1; obtain ⟨me, g1, g2⟩ := zc2 i en h2; exact ⟨_, me, rfl, g1, g2⟩
  | 3, h1 => cases h1; obtain ⟨me, g1, g2⟩ := zc3 i en h2; exact ⟨_, me, rfl, g1, g2⟩
  | 4, h1 => cases h1; obtain ⟨me, g1, g2⟩ := zc4 i en h2; exact ⟨_, me, rfl, g1, g2⟩
  | 5, h1 => cases h1; obtain ⟨me, g1, g2⟩ := zc5 i en h2; exact ⟨_, me, rfl, g1, g2⟩
  | 6, h1 => cases h1; obtain ⟨me, g1, g2⟩ := zc6 i en h2; exact ⟨_, me, rfl, g1, g2⟩
  | 7, h1 => cases h1; obtain ⟨me, g1, g2⟩ := zc7 i en h2; exact ⟨_, me, rfl, g1, g2⟩
  | u + 8, h1 => exact absurd h1 (by simp)
theorem zd1 : ∀ (u i : Nat) (a : List zEn) (en : zEn), [zxMeta8, zxMeta9, zxMeta10, zxMeta11, zxMeta12, zxMeta13, zxMeta14, zxMeta15][u]? = some a → a[i]? = some en → ∃ b me, [zMeth8, zMeth9, zMeth10, zMeth11, zMeth12, zMeth13, zMeth14, zMeth15][u]? = some b ∧ b[i]? = some me ∧ zOK (64 + 8 * u + i) en me := by
  intro u i a en h1 h2
  match u, h1 with
  | 0, h1 => cases h1; obtain ⟨me, g1, g2⟩ := zc8 i en h2; exact ⟨_, me, rfl, g1, g2⟩
  | 1, h1 => cases h1; obtain ⟨me, g1, g2⟩ := zc9 i en h2; exact ⟨_, me, rfl, g1, g2⟩
  | 2, h1 => cases h1; obtain ⟨me, g1, g2⟩ := zc10 i en h2; exact ⟨_, me, rfl, g1, g2⟩
  | 3, h1 => cases h1; obtain ⟨me, g1, g2⟩ := zc11 i en h2; exact ⟨_, me, rfl, g1, g2⟩
  | 4, h1 => cases h1; obtain ⟨me, g1, g2⟩ := zc12 i en h2; exact ⟨_, me, rfl, g1, g2⟩
  | 5, h1 => cases h1; obtain ⟨me, g1, g2⟩ := zc13 i en h2; exact ⟨_, me, rfl, g1, g2⟩
  | 6, h1 => cases h1; obtain ⟨me, g1, g2⟩ := zc14 i en h2; exact ⟨_, me, rfl, g1, g2⟩
  | 7, h1 => cases h1; obtain ⟨me, g1, g2⟩ := zc15 i en h2; exact ⟨_, me, rfl, g1, g2⟩
  | u + 8, h1 => exact absurd h1 (by simp)
theorem zd2 : ∀ (u i : Nat) (a : List zEn) (en : zEn), [zxMeta16, zxMeta17, zxMeta18, zxMeta19, zxMeta20, zxMeta21, zxMeta22, zxMeta23][u]? = some a → a[i]? = some en → ∃ b me, [zMeth16, zMeth17, zMeth18, zMeth19, zMeth20, zMeth21, zMeth22, zMeth23][u]? = some b ∧ b[i]? = some me ∧ zOK (128 + 8 * u + i) en me := by
  intro u i a en h1 h2
  match u, h1 with
  | 0, h1 => cases h1; obtain ⟨me, g1, g2⟩ := zc16 i en h2; exact ⟨_, me, rfl, g1, g2⟩
  | 1, h1 => cases h1; obtain ⟨me, g1, g2⟩ := zc17 i en h2; exact ⟨_, me, rfl, g1, g2⟩
  | 2, h1 => cases h1; obtain ⟨me, g1, g2⟩ := zc18 i en h2; exact ⟨_, me, rfl, g1, g2⟩
  | 3, h1 => cases h1; obtain ⟨me, g1, g2⟩ := zc19 i en h2; exact ⟨_, me, rfl, g1, g2⟩
  | 4, h1 => cases h1; obtain ⟨me, g1, g2⟩ := zc20 i en h2; exact ⟨_, me, rfl, g1, g2⟩
  | 5, h1 => cases h1; obtain ⟨me, g1, g2⟩ := zc21 i en h2; exact ⟨_, me, rfl, g1, g2⟩
  | 6, h1 => cases h1; obtain ⟨me, g1, g2⟩ := zc22 i en h2; exact ⟨_, me, rfl, g1, g2⟩
  | 7, h1 => cases h1; obtain ⟨me, g1, g2⟩ := zc23 i en h2; exact ⟨_, me, rfl, g1, g2⟩
  | u + 8, h1 => exact absurd h1 (by simp)
theorem zd3 : ∀ (u i : Nat) (a : List zEn) (en : zEn), [zxMeta24, zxMeta25, zxMeta26, zxMeta27, zxMeta28, zxMeta29, zxMeta30, zxMeta31][u]? = some a → a[i]? = some en → ∃ b me, [zMeth24, zMeth25, zMeth26, zMeth27, zMeth28, zMeth29, zMeth30, zMeth31][u]? = some b ∧ b[i]? = some me ∧ zOK (192 + 8 * u + i) en me := by
  intro u i a en h1 h2
  match u, h1 with
  | 0, h1 => cases h1; obtain ⟨me, g1, g2⟩ := zc24 i en h2; exact ⟨_, me, rfl, g1, g2⟩
  | 1, h1 => cases h1; obtain ⟨me, g1, g2⟩ := zc25 i en h2; exact ⟨_, me, rfl, g1, g2⟩
  | 2, h1 => cases h1; obtain ⟨me, g1, g2⟩ := zc26 i en h2; exact ⟨_, me, rfl, g1, g2⟩
  | 3, h1 => cases h1; obtain ⟨me, g1, g2⟩ := zc27 i en h2; exact ⟨_, me, rfl, g1, g2⟩
  | 4, h1 => cases h1; obtain ⟨me, g1, g2⟩ := zc28 i en h2; exact ⟨_, me, rfl, g1, g2⟩
  | 5, h1 => cases h1; obtain ⟨me, g1, g2⟩ := zc29 i en h2; exact ⟨_, me, rfl, g1, g2⟩
  | 6, h1 => cases h1; obtain ⟨me, g1, g2⟩ := zc30 i en h2; exact ⟨_, me, rfl, g1, g2⟩
  | 7, h1 => cases h1; obtain ⟨me, g1, g2⟩ := zc31 i en h2; exact ⟨_, me, rfl, g1, g2⟩
  | u + 8, h1 => exact absurd h1 (by simp)
theorem zd4 : ∀ (u i : Nat) (a : List zEn) (en : zEn), [zxMeta32, zxMeta33, zxMeta34, zxMeta35, zxMeta36, zxMeta37, zxMeta38, zxMeta39][u]? = some a → a[i]? = some en → ∃ b me, [zMeth32, zMeth33, zMeth34, zMeth35, zMeth36, zMeth37, zMeth38, zMeth39][u]? = some b ∧ b[i]? = some me ∧ zOK (256 + 8 * u + i) en me := by
  intro u i a en h1 h2
  match u, h1 with
  | 0, h1 => cases h1; obtain ⟨me, g1, g2⟩ := zc32 i en h2; exact ⟨_, me, rfl, g1, g2⟩
  | 1, h1 => cases h1; obtain ⟨me, g1, g2⟩ := zc33 i en h2; exact ⟨_, me, rfl, g1, g2⟩
  | 2, h1 => cases h1; obtain ⟨me, g1, g2⟩ := zc34 i en h2; exact ⟨_, me, rfl, g1, g2⟩
  | 3, h1 => cases h1; obtain ⟨me, g1, g2⟩ := zc35 i en h2; exact ⟨_, me, rfl, g1, g2⟩
  | 4, h1 => cases h1; obtain ⟨me, g1, g2⟩ := zc36 i en h2; exact ⟨_, me, rfl, g1, g2⟩
  | 5, h1 => cases h1; obtain ⟨me, g1, g2⟩ := zc37 i en h2; exact ⟨_, me, rfl, g1, g2⟩
  | 6, h1 => cases h1; obtain ⟨me, g1, g2⟩ := zc38 i en h2; exact ⟨_, me, rfl, g1, g2⟩
  | 7, h1 => cases h1; obtain ⟨me, g1, g2⟩ := zc39 i en h2; exact ⟨_, me, rfl, g1, g2⟩
  | u + 8, h1 => exact absurd h1 (by simp)
theorem zd5 : ∀ (u i : Nat) (a : List zEn) (en : zEn), [zxMeta40, zxMeta41, zxMeta42, zxMeta43, zxMeta44][u]? = some a → a[i]? = some en → ∃ b me, [zMeth40, zMeth41, zMeth42, zMeth43, zMeth44][u]? = some b ∧ b[i]? = some me ∧ zOK (320 + 8 * u + i) en me := by
  intro u i a en h1 h2
  match u, h1 with
  | 0, h1 => cases h1; obtain ⟨me, g1, g2⟩ := zc40 i en h2; exact ⟨_, me, rfl, g1, g2⟩
  | 1, h1 => cases h1; obtain ⟨me, g1, g2⟩ := zc41 i en h2; exact ⟨_, me, rfl, g1, g2⟩
  | 2, h1 => cases h1; obtain ⟨me, g1, g2⟩ := zc42 i en h2; exact ⟨_, me, rfl, g1, g2⟩
  | 3, h1 => cases h1; obtain ⟨me, g1, g2⟩ := zc43 i en h2; exact ⟨_, me, rfl, g1, g2⟩
  | 4, h1 => cases h1; obtain ⟨me, g1, g2⟩ := zc44 i en h2; exact ⟨_, me, rfl, g1, g2⟩
  | u + 5, h1 => exact absurd h1 (by simp)
theorem zG_iff {α : Type} {c : List (List (List α))} {j : Nat} {x : α} (h : zG c j = some x) : ∃ b a, c[j / 64]? = some b ∧ b[j / 8 % 8]? = some a ∧ a[j % 8]? = some x := by
  unfold zG at h
  cases h1 : c[j / 64]? with
  | none => rw [h1] at h; cases h
  | some b =>
    rw [h1, Option.bind_some] at h
    cases h2 : b[j / 8 % 8]? with
    | none => rw [h2] at h; cases h
    | some a =>
      rw [h2, Option.bind_some] at h
      exact ⟨b, a, rfl, h2, h⟩
/-- EVERY METHOD of the tables is the code's -/
theorem zall {y : Nat} {en : zEn} (h : zG zxMeta y = some en) : ∃ me, zG zMeth y = some me ∧ zOK y en me := by
  obtain ⟨b, a, h1, h2, h3⟩ := zG_iff h
  have e : 64 * (y / 64) + 8 * (y / 8 % 8) + y % 8 = y := by omega
  rw [← e]
  have key : ∃ b2 a2 me, zMeth[y / 64]? = some b2 ∧ b2[y / 8 % 8]? = some a2 ∧ a2[y % 8]? = some me ∧ zOK (64 * (y / 64) + 8 * (y / 8 % 8) + y % 8) en me := by
    generalize y / 64 = t at h1 ⊢
    match t, h1 with
    | 0, h1 => cases h1; obtain ⟨b3, me, q1, q2, q3⟩ := zd0 _ _ _ en h2 h3; exact ⟨_, b3, me, rfl, q1, q2, q3⟩
    | 1, h1 => cases h1; obtain ⟨b3, me, q1, q2, q3⟩ := zd1 _ _ _ en h2 h3; exact ⟨_, b3, me, rfl, q1, q2, q3⟩
    | 2, h1 => cases h1; obtain ⟨b3, me, q1, q2, q3⟩ := zd2 _ _ _ en h2 h3; exact ⟨_, b3, me, rfl, q1, q2, q3⟩
    | 3, h1 => cases h1; obtain ⟨b3, me, q1, q2, q3⟩ := zd3 _ _ _ en h2 h3; exact ⟨_, b3, me, rfl, q1, q2, q3⟩
    | 4, h1 => cases h1; obtain ⟨b3, me, q1, q2, q3⟩ := zd4 _ _ _ en h2 h3; exact ⟨_, b3, me, rfl, q1, q2, q3⟩
    | 5, h1 => cases h1; obtain ⟨b3, me, q1, q2, q3⟩ := zd5 _ _ _ en h2 h3; exact ⟨_, b3, me, rfl, q1, q2, q3⟩
    | t + 6, h1 => exact absurd h1 (by simp [zxMeta])
  obtain ⟨b2, a2, me, g1, g2, g3, g4⟩ := key
  refine ⟨me, ?_, g4⟩
  rw [e]
  unfold zG
  rw [g1, Option.bind_some, g2, Option.bind_some]
  exact g3
