set_option maxRecDepth 1000000 in
theorem zq0 : zok zbtL 6 zstop0 1000000 (88, ze0) zxi0 zy0 33 [799995, 3, 595, 0] [0] (1000, 88, 23815) [] zM0 = true := by decide +kernel
set_option maxRecDepth 1000000 in
theorem zq1 : zok zbtL 6 zstop0 1000000 (88, ze0) zxi0 zy0 33 [799995, 3, 595, 0] [8] (1000, 88, 23815) [] zM0 = true := by decide +kernel
set_option maxRecDepth 1000000 in
theorem zq2 : zok zbtL 6 zstop0 1000000 (88, ze0) zxi0 zy0 33 [799995, 3, 595, 0] [16] (1000, 88, 23815) [] zM0 = true := by decide +kernel
set_option maxRecDepth 1000000 in
theorem zq3 : zok zbtL 6 zstop0 1000000 (88, ze0) zxi0 zy0 33 [799995, 3, 595, 0] [24] (1000, 88, 23815) [] zM0 = true := by decide +kernel
set_option maxRecDepth 1000000 in
theorem zq4 : zok zbtL 6 zstop0 1000000 (88, ze0) zxi0 zy0 33 [799995, 3, 595, 0] [32] (1000, 88, 23815) [] zM0 = true := by decide +kernel
set_option maxRecDepth 1000000 in
theorem zq5 : zok zbtL 6 zstop0 1000000 (88, ze0) zxi0 zy0 33 [799995, 3, 595, 0] [40] (1000, 88, 23815) [] zM0 = true := by decide +kernel
set_option maxRecDepth 1000000 in
theorem zq6 : zok zbtL 6 zstop0 1000000 (88, ze0) zxi0 zy0 33 [799995, 3, 595, 0] [48] (1000, 88, 23815) [] zM0 = true := by decide +kernel
set_option maxRecDepth 1000000 in
theorem zq7 : zok zbtL 6 zstop0 1000000 (88, ze0) zxi0 zy0 33 [799995, 3, 595, 0] [56] (1000, 88, 23815) [] zM0 = true := by decide +kernel
set_option maxRecDepth 1000000 in
theorem zq8 : zok zbtL 6 zstop0 1000000 (88, ze0) zxi0 zy0 33 [799995, 3, 595, 0] [64] (1000, 88, 23815) [] zM0 = true := by decide +kernel
set_option maxRecDepth 1000000 in
theorem zq9 : zok zbtL 6 zstop0 1000000 (88, ze0) zxi0 zy0 33 [799995, 3, 595, 0] [72] (1000, 88, 23815) [] zM0 = true := by decide +kernel
set_option maxRecDepth 1000000 in
theorem zq10 : zok zbtL 6 zstop0 1000000 (88, ze0) zxi0 zy0 33 [799995, 3, 595, 0] [80] (1000, 88, 23815) [] zM0 = true := by decide +kernel
set_option maxRecDepth 1000000 in
theorem zq11 : zok zbtL 6 zstop0 1000000 (88, ze0) zxi0 zy0 33 [799995, 3, 595, 0] [88] (1000, 88, 23815) [] zM0 = true := by decide +kernel
set_option maxRecDepth 1000000 in
theorem zq12 : zok zbtL 6 zstop0 1000000 (88, ze0) zxi0 zy0 33 [799995, 3, 595, 0] [96] (1000, 88, 23815) [] zM0 = true := by decide +kernel
set_option maxRecDepth 1000000 in
theorem zq13 : zok zbtL 6 zstop0 1000000 (88, ze0) zxi0 zy0 33 [799995, 3, 595, 0] [104] (1000, 88, 23815) [] zM0 = true := by decide +kernel
set_option maxRecDepth 1000000 in
theorem zq14 : zok zbtL 6 zstop0 1000000 (88, ze0) zxi0 zy0 33 [799995, 3, 595, 0] [112] (1000, 88, 23815) [] zM0 = true := by decide +kernel
set_option maxRecDepth 1000000 in
theorem zq15 : zok zbtL 6 zstop0 1000000 (88, ze0) zxi0 zy0 33 [799995, 3, 595, 0] [120] (1000, 88, 23815) [] zM0 = true := by decide +kernel
set_option maxRecDepth 1000000 in
theorem zq17 : zok zbtL 6 zstop0 1000000 (88, ze0) zxi0 zy0 33 [799995, 3, 595, 0] [136] (1000, 88, 23815) [] zM0 = true := by decide +kernel
set_option maxRecDepth 1000000 in
theorem zq18 : zok zbtL 6 zstop0 1000000 (88, ze0) zxi0 zy0 33 [799995, 3, 595, 0] [144] (1000, 88, 23815) [] zM0 = true := by decide +kernel
set_option maxRecDepth 1000000 in
theorem zq19 : zok zbtL 6 zstop0 1000000 (88, ze0) zxi0 zy0 33 [799995, 3, 595, 0] [152] (1000, 88, 23815) [] zM0 = true := by decide +kernel
set_option maxRecDepth 1000000 in
theorem zq20 : zok zbtL 6 zstop0 1000000 (88, ze0) zxi0 zy0 33 [799995, 3, 595, 0] [160] (1000, 88, 23815) [] zM0 = true := by decide +kernel
set_option maxRecDepth 1000000 in
theorem zq21 : zok zbtL 6 zstop0 1000000 (88, ze0) zxi0 zy0 33 [799995, 3, 595, 0] [168] (1000, 88, 23815) [] zM0 = true := by decide +kernel
set_option maxRecDepth 1000000 in
theorem zq23 : zok zbtL 6 zstop0 1000000 (88, ze0) zxi0 zy0 33 [799995, 3, 595, 0] [184] (1000, 88, 23815) [] zM0 = true := by decide +kernel
set_option maxRecDepth 1000000 in
theorem zq24 : zok zbtL 6 zstop0 1000000 (88, ze0) zxi0 zy0 33 [799995, 3, 595, 0] [192] (1000, 88, 23815) [] zM0 = true := by decide +kernel
set_option maxRecDepth 1000000 in
theorem zq25 : zok zbtL 6 zstop0 1000000 (88, ze0) zxi0 zy0 33 [799995, 3, 595, 0] [200] (1000, 88, 23815) [] zM0 = true := by decide +kernel
set_option maxRecDepth 1000000 in
theorem zq26 : zok zbtL 6 zstop0 1000000 (88, ze0) zxi0 zy0 33 [799995, 3, 595, 0] [208] (1000, 88, 23815) [] zM0 = true := by decide +kernel
set_option maxRecDepth 1000000 in
theorem zq27 : zok zbtL 6 zstop0 1000000 (88, ze0) zxi0 zy0 33 [799995, 3, 595, 0] [216] (1000, 88, 23815) [] zM0 = true := by decide +kernel
set_option maxRecDepth 1000000 in
theorem zq28 : zok zbtL 6 zstop0 1000000 (88, ze0) zxi0 zy0 33 [799995, 3, 595, 0] [224] (1000, 88, 23815) [] zM0 = true := by decide +kernel
set_option maxRecDepth 1000000 in
theorem zq29 : zok zbtL 6 zstop0 1000000 (88, ze0) zxi0 zy0 33 [799995, 3, 595, 0] [232] (1000, 88, 23815) [] zM0 = true := by decide +kernel
set_option maxRecDepth 1000000 in
theorem zq30 : zok zbtL 6 zstop0 1000000 (88, ze0) zxi0 zy0 33 [799995, 3, 595, 0] [240] (1000, 88, 23815) [] zM0 = true := by decide +kernel
set_option maxRecDepth 1000000 in
theorem zq31 : zok zbtL 6 zstop0 1000000 (88, ze0) zxi0 zy0 33 [799995, 3, 595, 0] [248] (1000, 88, 23815) [] zM0 = true := by decide +kernel
set_option maxRecDepth 1000000 in
theorem zq32 : zok zbtL 6 zstop0 1000000 (88, ze0) zxi0 zy0 33 [799995, 3, 595, 0] [256] (1000, 88, 23815) [] zM0 = true := by decide +kernel
set_option maxRecDepth 1000000 in
theorem zq33 : zok zbtL 6 zstop0 1000000 (88, ze0) zxi0 zy0 33 [799995, 3, 595, 0] [264] (1000, 88, 23815) [] zM0 = true := by decide +kernel
set_option maxRecDepth 1000000 in
theorem zq34 : zok zbtL 6 zstop0 1000000 (88, ze0) zxi0 zy0 33 [799995, 3, 595, 0] [272] (1000, 88, 23815) [] zM0 = true := by decide +kernel
set_option maxRecDepth 1000000 in
theorem zq35 : zok zbtL 6 zstop0 1000000 (88, ze0) zxi0 zy0 33 [799995, 3, 595, 0] [280] (1000, 88, 23815) [] zM0 = true := by decide +kernel
set_option maxRecDepth 1000000 in
theorem zq36 : zok zbtL 6 zstop0 1000000 (88, ze0) zxi0 zy0 33 [799995, 3, 595, 0] [288] (1000, 88, 23815) [] zM0 = true := by decide +kernel
set_option maxRecDepth 1000000 in
theorem zq37 : zok zbtL 6 zstop0 1000000 (88, ze0) zxi0 zy0 33 [799995, 3, 595, 0] [296] (1000, 88, 23815) [] zM0 = true := by decide +kernel
set_option maxRecDepth 1000000 in
theorem zq41 : zok zbtL 6 zstop0 1000000 (88, ze0) zxi0 zy0 33 [799995, 3, 595, 0] [328] (1000, 88, 23815) [] zM0 = true := by decide +kernel
set_option maxRecDepth 1000000 in
theorem zq42 : zok zbtL 6 zstop0 1000000 (88, ze0) zxi0 zy0 33 [799995, 3, 595, 0] [336] (1000, 88, 23815) [] zM0 = true := by decide +kernel
set_option maxRecDepth 1000000 in
theorem zq43 : zok zbtL 6 zstop0 1000000 (88, ze0) zxi0 zy0 33 [799995, 3, 595, 0] [344] (1000, 88, 23815) [] zM0 = true := by decide +kernel
set_option maxRecDepth 1000000 in
theorem zq44 : zok zbtL 6 zstop0 1000000 (88, ze0) zxi0 zy0 33 [799995, 3, 595, 0] [352] (1000, 88, 23815) [] zM0 = true := by decide +kernel
set_option maxRecDepth 1000000 in
theorem zq45 : ∀ i, i < 19 → zok zbtL 6 zstop0 1000 (88, ze0) zxi0 zy0 33 [799995, 3, 595, 0] [8 * (45 + i)] (1000, 88, 23815) [] zM0 = true := by decide +kernel
