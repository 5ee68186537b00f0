/-! CLASS FACTS -/
def zgood (w : Cond) : Bool := match w with
  | .fieldLinkNest _ _ _ _ _ _ => true
  | .methodLinkNest _ _ _ _ => true
  | w => goodWord w
noncomputable def zat (l : List Nat) (k : Nat) : Nat := (l[k]?).getD 0
def zkt (t : FieldType) : Nat := match t with
  | .int => 0
  | .boolean => 1
  | .long => 2
  | .object _ => 3
  | .array _ => 3
  | _ => 9
theorem zlay0 : ∀ k, k < 3 → zwd (zat [2098, 2100, 2102] k) = some (u_lay RX0 TX0 k) ∧ zgood (u_lay RX0 TX0 k) = true := by decide +kernel
theorem zkk0 : ∀ k, k < 3 → zkt (tyX0 k) = zxK (0 + k) % 8 ∧ (TX0 k).2.2.2 = Nat.ble 8 (zxK (0 + k)) ∧ (TX0 k).1 = RX0 ∧ zG (zxD 0) k = some (if zkt (tyX0 k) = 2 then 4 else if zkt (tyX0 k) = 3 then 5 else 0) := by decide +kernel
theorem zin0 : zwd 2090 = some (.instantiable RX0 3) ∧ zwd 1010 = some (.initialized RX0) := by decide +kernel
theorem zlay1 : ∀ k, k < 11 → zwd (zat [1075, 1077, 1079, 1081, 1083, 1085, 1087, 1089, 1091, 1093, 1095] k) = some (u_lay RX1 TX1 k) ∧ zgood (u_lay RX1 TX1 k) = true := by decide +kernel
theorem zkk1 : ∀ k, k < 11 → zkt (tyX1 k) = zxK (64 + k) % 8 ∧ (TX1 k).2.2.2 = Nat.ble 8 (zxK (64 + k)) ∧ (TX1 k).1 = RX1 ∧ zG (zxD 1) k = some (if zkt (tyX1 k) = 2 then 4 else if zkt (tyX1 k) = 3 then 5 else 0) := by decide +kernel
theorem zin1 : zwd 1033 = some (.instantiable RX1 11) ∧ zwd 1003 = some (.initialized RX1) := by decide +kernel
theorem zlay2 : ∀ k, k < 6 → zwd (zat [2139, 2141, 2143, 2145, 2147, 2149] k) = some (u_lay RX2 TX2 k) ∧ zgood (u_lay RX2 TX2 k) = true := by decide +kernel
theorem zkk2 : ∀ k, k < 6 → zkt (tyX2 k) = zxK (128 + k) % 8 ∧ (TX2 k).2.2.2 = Nat.ble 8 (zxK (128 + k)) ∧ (TX2 k).1 = RX2 ∧ zG (zxD 2) k = some (if zkt (tyX2 k) = 2 then 4 else if zkt (tyX2 k) = 3 then 5 else 0) := by decide +kernel
theorem zin2 : zwd 2126 = some (.instantiable RX2 6) ∧ zwd 1012 = some (.initialized RX2) := by decide +kernel
theorem zlay3 : ∀ k, k < 10 → zwd (zat [1166, 1168, 1170, 1172, 1174, 1176, 1178, 1180, 1182, 1184] k) = some (u_lay RX3 TX3 k) ∧ zgood (u_lay RX3 TX3 k) = true := by decide +kernel
theorem zkk3 : ∀ k, k < 10 → zkt (tyX3 k) = zxK (192 + k) % 8 ∧ (TX3 k).2.2.2 = Nat.ble 8 (zxK (192 + k)) ∧ (TX3 k).1 = RX3 ∧ zG (zxD 3) k = some (if zkt (tyX3 k) = 2 then 4 else if zkt (tyX3 k) = 3 then 5 else 0) := by decide +kernel
theorem zin3 : zwd 1027 = some (.instantiable RX3 10) ∧ zwd 1002 = some (.initialized RX3) := by decide +kernel
theorem zlay4 : ∀ k, k < 4 → zwd (zat [1237, 1239, 2001, 2003] k) = some (u_lay RX4 TX4 k) ∧ zgood (u_lay RX4 TX4 k) = true := by decide +kernel
theorem zkk4 : ∀ k, k < 4 → zkt (tyX4 k) = zxK (256 + k) % 8 ∧ (TX4 k).2.2.2 = Nat.ble 8 (zxK (256 + k)) ∧ (TX4 k).1 = RX4 ∧ zG (zxD 4) k = some (if zkt (tyX4 k) = 2 then 4 else if zkt (tyX4 k) = 3 then 5 else 0) := by decide +kernel
theorem zin4 : zwd 1226 = some (.instantiable RX4 4) ∧ zwd 1007 = some (.initialized RX4) := by decide +kernel
theorem zlay5 : ∀ k, k < 9 → zwd (zat [1205, 1207, 1209, 1211, 1213, 1215, 1217, 1219, 1221] k) = some (u_lay RX5 TX5 k) ∧ zgood (u_lay RX5 TX5 k) = true := by decide +kernel
theorem zkk5 : ∀ k, k < 9 → zkt (tyX5 k) = zxK (320 + k) % 8 ∧ (TX5 k).2.2.2 = Nat.ble 8 (zxK (320 + k)) ∧ (TX5 k).1 = RX5 ∧ zG (zxD 5) k = some (if zkt (tyX5 k) = 2 then 4 else if zkt (tyX5 k) = 3 then 5 else 0) := by decide +kernel
theorem zin5 : zwd 1188 = some (.instantiable RX5 9) ∧ zwd 1006 = some (.initialized RX5) := by decide +kernel
theorem zlay6 : ∀ k, k < 7 → zwd (zat [2073, 2075, 2077, 2079, 2081, 2083, 2085] k) = some (u_lay RX6 TX6 k) ∧ zgood (u_lay RX6 TX6 k) = true := by decide +kernel
theorem zkk6 : ∀ k, k < 7 → zkt (tyX6 k) = zxK (384 + k) % 8 ∧ (TX6 k).2.2.2 = Nat.ble 8 (zxK (384 + k)) ∧ (TX6 k).1 = RX6 ∧ zG (zxD 6) k = some (if zkt (tyX6 k) = 2 then 4 else if zkt (tyX6 k) = 3 then 5 else 0) := by decide +kernel
theorem zin6 : zwd 2058 = some (.instantiable RX6 7) ∧ zwd 1009 = some (.initialized RX6) := by decide +kernel
theorem zlay7 : ∀ k, k < 11 → zwd (zat [2034, 2036, 2038, 2040, 2042, 2044, 2046, 2048, 2050, 2052, 2054] k) = some (u_lay RX7 TX7 k) ∧ zgood (u_lay RX7 TX7 k) = true := by decide +kernel
theorem zkk7 : ∀ k, k < 11 → zkt (tyX7 k) = zxK (448 + k) % 8 ∧ (TX7 k).2.2.2 = Nat.ble 8 (zxK (448 + k)) ∧ (TX7 k).1 = RX7 ∧ zG (zxD 7) k = some (if zkt (tyX7 k) = 2 then 4 else if zkt (tyX7 k) = 3 then 5 else 0) := by decide +kernel
theorem zin7 : zwd 2007 = some (.instantiable RX7 11) ∧ zwd 1008 = some (.initialized RX7) := by decide +kernel
theorem zlay8 : ∀ k, k < 4 → zwd (zat [2116, 2118, 2120, 2122] k) = some (u_lay RX8 TX8 k) ∧ zgood (u_lay RX8 TX8 k) = true := by decide +kernel
theorem zkk8 : ∀ k, k < 4 → zkt (tyX8 k) = zxK (512 + k) % 8 ∧ (TX8 k).2.2.2 = Nat.ble 8 (zxK (512 + k)) ∧ (TX8 k).1 = RX8 ∧ zG (zxD 8) k = some (if zkt (tyX8 k) = 2 then 4 else if zkt (tyX8 k) = 3 then 5 else 0) := by decide +kernel
theorem zin8 : zwd 2106 = some (.instantiable RX8 4) ∧ zwd 1011 = some (.initialized RX8) := by decide +kernel
theorem zlay9 : ∀ k, k < 2 → zwd (zat [1117, 1119] k) = some (u_lay RX9 TX9 k) ∧ zgood (u_lay RX9 TX9 k) = true := by decide +kernel
theorem zkk9 : ∀ k, k < 2 → zkt (tyX9 k) = zxK (576 + k) % 8 ∧ (TX9 k).2.2.2 = Nat.ble 8 (zxK (576 + k)) ∧ (TX9 k).1 = RX9 ∧ zG (zxD 9) k = some (if zkt (tyX9 k) = 2 then 4 else if zkt (tyX9 k) = 3 then 5 else 0) := by decide +kernel
theorem zin9 : zwd 1100 = some (.instantiable RX9 2) ∧ zwd 1004 = some (.initialized RX9) := by decide +kernel
theorem zlay10 : ∀ k, k < 13 → zwd (zat [2197, 2199, 2201, 2203, 2205, 2207, 2209, 2211, 2213, 2215, 2217, 2219, 2221] k) = some (u_lay RX10 TX10 k) ∧ zgood (u_lay RX10 TX10 k) = true := by decide +kernel
theorem zkk10 : ∀ k, k < 13 → zkt (tyX10 k) = zxK (640 + k) % 8 ∧ (TX10 k).2.2.2 = Nat.ble 8 (zxK (640 + k)) ∧ (TX10 k).1 = RX10 ∧ zG (zxD 10) k = some (if zkt (tyX10 k) = 2 then 4 else if zkt (tyX10 k) = 3 then 5 else 0) := by decide +kernel
theorem zin10 : zwd 1019 = some (.instantiable RX10 13) ∧ zwd 1001 = some (.initialized RX10) := by decide +kernel
theorem zlay11 : ∀ k, k < 49 → zwd (zat [6113, 6115, 6117, 6119, 6121, 6123, 6125, 6127, 6129, 6131, 6133, 6135, 6137, 6139, 6141, 6143, 6145, 6147, 6149, 6151, 6153, 6155, 6157, 6159, 6161, 6163, 6165, 6167, 6169, 6171, 6173, 6175, 6177, 6179, 6181, 6183, 6185, 6187, 6189, 6191, 6193, 6195, 6197, 6199, 6201, 6203, 6205, 6207, 6209] k) = some (u_lay RX11 TX11 k) ∧ zgood (u_lay RX11 TX11 k) = true := by decide +kernel
theorem zkk11 : ∀ k, k < 49 → zkt (tyX11 k) = zxK (704 + k) % 8 ∧ (TX11 k).2.2.2 = Nat.ble 8 (zxK (704 + k)) ∧ (TX11 k).1 = RX11 ∧ zG (zxD 11) k = some (if zkt (tyX11 k) = 2 then 4 else if zkt (tyX11 k) = 3 then 5 else 0) := by decide +kernel
theorem zin11 : zwd 6046 = some (.instantiable RX11 49) ∧ zwd 1013 = some (.initialized RX11) := by decide +kernel
theorem zvw : ∀ c, c < 12 → vwCl[c]? = some (zcn c, zTX c, zxCn c) := by
  intro c h
  match c, h with
  | 0, _ => rfl
  | 1, _ => rfl
  | 2, _ => rfl
  | 3, _ => rfl
  | 4, _ => rfl
  | 5, _ => rfl
  | 6, _ => rfl
  | 7, _ => rfl
  | 8, _ => rfl
  | 9, _ => rfl
  | 10, _ => rfl
  | 11, _ => rfl
  | c + 12, h => omega
theorem zlays : ∀ c, c < 12 → ∀ k, k < zxCn c → u_lay (zcn c) (zTX c) k ∈ lw_tbl ∧ zgood (u_lay (zcn c) (zTX c) k) = true := by
  intro c h
  match c, h with
  | 0, _ => exact fun k hk => ⟨zwd_mem (zlay0 k hk).1, (zlay0 k hk).2⟩
  | 1, _ => exact fun k hk => ⟨zwd_mem (zlay1 k hk).1, (zlay1 k hk).2⟩
  | 2, _ => exact fun k hk => ⟨zwd_mem (zlay2 k hk).1, (zlay2 k hk).2⟩
  | 3, _ => exact fun k hk => ⟨zwd_mem (zlay3 k hk).1, (zlay3 k hk).2⟩
  | 4, _ => exact fun k hk => ⟨zwd_mem (zlay4 k hk).1, (zlay4 k hk).2⟩
  | 5, _ => exact fun k hk => ⟨zwd_mem (zlay5 k hk).1, (zlay5 k hk).2⟩
  | 6, _ => exact fun k hk => ⟨zwd_mem (zlay6 k hk).1, (zlay6 k hk).2⟩
  | 7, _ => exact fun k hk => ⟨zwd_mem (zlay7 k hk).1, (zlay7 k hk).2⟩
  | 8, _ => exact fun k hk => ⟨zwd_mem (zlay8 k hk).1, (zlay8 k hk).2⟩
  | 9, _ => exact fun k hk => ⟨zwd_mem (zlay9 k hk).1, (zlay9 k hk).2⟩
  | 10, _ => exact fun k hk => ⟨zwd_mem (zlay10 k hk).1, (zlay10 k hk).2⟩
  | 11, _ => exact fun k hk => ⟨zwd_mem (zlay11 k hk).1, (zlay11 k hk).2⟩
  | c + 12, h => omega
theorem zkks : ∀ c, c < 12 → ∀ k, k < zxCn c → zkt (ztyX c k) = zxK (64 * c + k) % 8 ∧ (zTX c k).2.2.2 = Nat.ble 8 (zxK (64 * c + k)) ∧ (zTX c k).1 = zcn c ∧ zG (zxD c) k = some (if zkt (ztyX c k) = 2 then 4 else if zkt (ztyX c k) = 3 then 5 else 0) := by
  intro c h
  match c, h with
  | 0, _ => exact zkk0
  | 1, _ => exact zkk1
  | 2, _ => exact zkk2
  | 3, _ => exact zkk3
  | 4, _ => exact zkk4
  | 5, _ => exact zkk5
  | 6, _ => exact zkk6
  | 7, _ => exact zkk7
  | 8, _ => exact zkk8
  | 9, _ => exact zkk9
  | 10, _ => exact zkk10
  | 11, _ => exact zkk11
  | c + 12, h => omega
theorem zins : ∀ c, c < 12 → Cond.instantiable (zcn c) (zxCn c) ∈ lw_tbl ∧ Cond.initialized (zcn c) ∈ lw_tbl := by
  intro c h
  match c, h with
  | 0, _ => exact ⟨zwd_mem zin0.1, zwd_mem zin0.2⟩
  | 1, _ => exact ⟨zwd_mem zin1.1, zwd_mem zin1.2⟩
  | 2, _ => exact ⟨zwd_mem zin2.1, zwd_mem zin2.2⟩
  | 3, _ => exact ⟨zwd_mem zin3.1, zwd_mem zin3.2⟩
  | 4, _ => exact ⟨zwd_mem zin4.1, zwd_mem zin4.2⟩
  | 5, _ => exact ⟨zwd_mem zin5.1, zwd_mem zin5.2⟩
  | 6, _ => exact ⟨zwd_mem zin6.1, zwd_mem zin6.2⟩
  | 7, _ => exact ⟨zwd_mem zin7.1, zwd_mem zin7.2⟩
  | 8, _ => exact ⟨zwd_mem zin8.1, zwd_mem zin8.2⟩
  | 9, _ => exact ⟨zwd_mem zin9.1, zwd_mem zin9.2⟩
  | 10, _ => exact ⟨zwd_mem zin10.1, zwd_mem zin10.2⟩
  | 11, _ => exact ⟨zwd_mem zin11.1, zwd_mem zin11.2⟩
  | c + 12, h => omega
theorem ztys : ∀ c, c < 12 → ∀ k, k < zxCn c → parseFieldDescriptor (zTX c k).2.2.1 = some (ztyX c k) := by
  intro c h
  match c, h with
  | 0, _ => exact tyX0_ok
  | 1, _ => exact tyX1_ok
  | 2, _ => exact tyX2_ok
  | 3, _ => exact tyX3_ok
  | 4, _ => exact tyX4_ok
  | 5, _ => exact tyX5_ok
  | 6, _ => exact tyX6_ok
  | 7, _ => exact tyX7_ok
  | 8, _ => exact tyX8_ok
  | 9, _ => exact tyX9_ok
  | 10, _ => exact tyX10_ok
  | 11, _ => exact tyX11_ok
  | c + 12, h => omega
theorem znms : ∀ c, c < 12 → ∀ a, a < zxCn c → ∀ b, b < zxCn c → a ≠ b → (zTX c a).2.1 ≠ (zTX c b).2.1 := by
  intro c h
  match c, h with
  | 0, _ => exact nmX0
  | 1, _ => exact nmX1
  | 2, _ => exact nmX2
  | 3, _ => exact nmX3
  | 4, _ => exact nmX4
  | 5, _ => exact nmX5
  | 6, _ => exact nmX6
  | 7, _ => exact nmX7
  | 8, _ => exact nmX8
  | 9, _ => exact nmX9
  | 10, _ => exact nmX10
  | 11, _ => exact nmX11
  | c + 12, h => omega
theorem zacI : Cond.arrayClass (.int) ∈ lw_tbl := zwd_mem (p := 1098) (by decide +kernel)
theorem zacJ : Cond.arrayClass (.long) ∈ lw_tbl := zwd_mem (p := 2088) (by decide +kernel)
theorem zacB : Cond.arrayClass (.byte) ∈ lw_tbl := zwd_mem (p := 1224) (by decide +kernel)
theorem zacZ : Cond.arrayClass (.boolean) ∈ lw_tbl := zwd_mem (p := 1122) (by decide +kernel)
theorem zob1 : Cond.instanceMethod objectInit ∈ lw_tbl := zwd_mem (p := 1024) (by decide +kernel)
theorem zob2 : Cond.code objectInit ⟨#[0xb1]⟩ 1 none ∈ lw_tbl := zwd_mem (p := 1025) (by decide +kernel)
