/-! LINKS: that the tables are the code's, and which words stand behind each instruction -/
def zln (i : Instr) : Nat := match i with
  | .bipush _ | .iload _ | .lload _ | .aload _ | .istore _ | .lstore _ | .astore _ | .newarray _ | .ldc _ => 2
  | .sipush _ | .iinc _ _ | .goto _ | .ifCond _ _ | .if_icmp _ _ | .getfield _ | .putfield _ | .getstatic _ | .new _ | .invokevirtual _ | .invokespecial _ | .invokestatic _ | .ldc_w _ | .ldc2_w _ => 3
  | .tableswitch _ _ _ _ | .lookupswitch _ _ => 0
  | _ => 1
noncomputable def zlf (own : String) (idx ax p : Nat) : Bool :=
  if ax = 832 then decide (zwd p = some (.fieldLink own idx "java/lang/String" "value" "[B"))
  else if ax = 833 then decide (zwd p = some (.fieldLink own idx "java/lang/String" "coder" "B"))
  else decide (ax / 64 < 12) && decide (ax % 64 < zxCn (ax / 64)) && (decide (zwd p = some (.fieldLink own idx (zTX (ax / 64) (ax % 64)).1 (zTX (ax / 64) (ax % 64)).2.1 (zTX (ax / 64) (ax % 64)).2.2.1)) || decide (zwd p = some (.fieldLinkNest own idx (zTX (ax / 64) (ax % 64)).1 (zTX (ax / 64) (ax % 64)).2.1 (zTX (ax / 64) (ax % 64)).2.2.1 "HornBraider")))
noncomputable def zlc (own : String) (idx ax p k : Nat) : Bool := match zG zMeth (ax / 16) with
  | none => false
  | some me => (decide (ax % 16 = k) && decide (zwd p = some (.methodLink own idx me.1))) || (decide (ax % 16 = k + 1) && decide (zwd p = some (.methodLinkNest own idx me.1 "HornBraider")))
noncomputable def zlk (own : String) (pc : Nat) (i : Instr) (ax p : Nat) : Bool := match i with
  | .goto off => decide ((pc : Int) + off = (ax : Int))
  | .ifCond _ off => decide ((pc : Int) + off = (ax : Int))
  | .if_icmp _ off => decide ((pc : Int) + off = (ax : Int))
  | .getfield idx => zlf own idx ax p
  | .putfield idx => decide (ax < 768) && zlf own idx ax p
  | .getstatic idx => (decide (ax = 1) && decide (zwd p = some (.fieldLink own idx "java/lang/String" "COMPACT_STRINGS" "Z"))) || (decide (ax = 2) && decide (zwd p = some (.fieldLink own idx "jdk/internal/util/Preconditions" "SIOOBE_FORMATTER" "Ljava/util/function/BiFunction;")))
  | .new idx => decide (zwd p = some (.classLink own idx (zcn ax)))
  | .invokevirtual idx => zlc own idx ax p 0
  | .invokespecial idx => (decide (ax = 31) && decide (zwd p = some (.methodLink own idx objectInit))) || zlc own idx ax p 2
  | .invokestatic idx => zlc own idx ax p 4
  | .ldc idx => if ax ≤ 4294967295 then decide (zwd p = some (.constant own idx (Int32.ofNat (zb ax)))) else decide ((zskey (ax - 4294967296)).1 = own ∧ (zskey (ax - 4294967296)).2.1 = idx ∧ ax - 4294967296 < 30)
  | .ldc_w idx => if ax ≤ 4294967295 then decide (zwd p = some (.constant own idx (Int32.ofNat (zb ax)))) else decide ((zskey (ax - 4294967296)).1 = own ∧ (zskey (ax - 4294967296)).2.1 = idx ∧ ax - 4294967296 < 30)
  | .ldc2_w idx => decide (zwd p = some (.constantLong own idx (Int64.ofNat ax)))
  | _ => true
noncomputable def zfind (ps : List (Nat × Nat)) (pc : Nat) : Nat := List.rec (motive := fun _ => Nat) 0 (fun q _ ih => zif (Nat.beq q.1 pc) q.2 ih) ps
noncomputable def zrowB (me : zMe) (ps : List (Nat × Nat)) (pc : Nat) (t : zT) : Bool := decide (t.1 = .nop) || ((decide (zln t.1 = 0) || decide (t.2.1 = pc + zln t.1)) && decide (decode me.2.1 pc = .ok (t.1, t.2.1 - pc)) && zlk me.2.2.2 pc t.1 t.2.2 (zfind ps pc))
def zrowP (me : zMe) (pc : Nat) (t : zT) : Prop := (zln t.1 = 0 ∨ t.2.1 = pc + zln t.1) ∧ decode me.2.1 pc = .ok (t.1, t.2.1 - pc) ∧ ∃ p, zlk me.2.2.2 pc t.1 t.2.2 p = true
def zrk (r : Option FieldType) : Nat := match r with
  | none => 0
  | some .int => 1
  | some .boolean => 2
  | some .long => 3
  | some .byte => 4
  | some .char => 5
  | _ => 9
/-- g: 0 an instance's method, 1 a constructor, 2 static, 3 the law -/
noncomputable def zheadB (y : Nat) (en : zEn) (me : zMe) (g p1 p2 p3 p4 : Nat) : Bool :=
  decide (en.2.2.2.2.1 = y) && decide (zrk me.2.2.1 = en.2.2.2.2.2.2.2.1) && decide (zcn en.2.2.2.1 = me.2.2.2) && decide (me.1.cls = me.2.2.2) && decide (en.2.2.1 ≤ 40) &&
  decide (en.2.2.2.2.2.2.2.2 = if g = 1 then en.2.2.2.1 + 1 else 0) && decide (g = 1 → me.1.name = "<init>" ∧ me.2.2.1 = none) && decide (plainFor me.1 = true) &&
  (decide (g = 3) || (decide (me.1.cls ≠ "java/lang/invoke/MethodHandle") && decide (me.1.cls ≠ "java/lang/invoke/VarHandle") && decide (zwd p1 = some (.code me.1 me.2.1 en.2.2.1 me.2.2.1)) && decide (zwd p2 = some (.initialized me.1.cls)) &&
    decide (zwd p3 = some (if g = 2 then .static me.1 else .instanceMethod me.1)) && decide (g = 0 → zwd p4 = some (.selects me.1.cls me.1 me.1)) &&
    decide ((parseMethodDescriptor me.1.desc).map (fun d => d.parameters.length + (if g = 2 then 0 else 1)) = some en.2.1)))
/-- what the checks give of a method -/
def zOK (y : Nat) (en : zEn) (me : zMe) : Prop :=
  (∀ pc, (en.1 pc).1 = .nop ∨ zrowP me pc (en.1 pc)) ∧ en.2.2.2.2.1 = y ∧ zrk me.2.2.1 = en.2.2.2.2.2.2.2.1 ∧ zcn en.2.2.2.1 = me.2.2.2 ∧ me.1.cls = me.2.2.2 ∧ en.2.2.1 ≤ 40 ∧ plainFor me.1 = true ∧
  ∃ g, (en.2.2.2.2.2.2.2.2 = if g = 1 then en.2.2.2.1 + 1 else 0) ∧ (g = 1 → me.1.name = "<init>" ∧ me.2.2.1 = none) ∧
  (g = 3 ∨ ((me.1.cls ≠ "java/lang/invoke/MethodHandle" ∧ me.1.cls ≠ "java/lang/invoke/VarHandle") ∧ Cond.code me.1 me.2.1 en.2.2.1 me.2.2.1 ∈ lw_tbl ∧ Cond.initialized me.1.cls ∈ lw_tbl ∧ (if g = 2 then Cond.static me.1 else Cond.instanceMethod me.1) ∈ lw_tbl ∧ (g = 0 → Cond.selects me.1.cls me.1 me.1 ∈ lw_tbl) ∧
    (parseMethodDescriptor me.1.desc).map (fun d => d.parameters.length + (if g = 2 then 0 else 1)) = some en.2.1))
theorem zOK_of {y : Nat} {en : zEn} {me : zMe} {ps : List (Nat × Nat)} {g p1 p2 p3 p4 len : Nat} (h1 : zheadB y en me g p1 p2 p3 p4 = true) (h2 : ∀ pc, pc < len → zrowB me ps pc (en.1 pc) = true) (h3 : ∀ pc, len ≤ pc → en.1 pc = zxno) : zOK y en me := by
  unfold zheadB at h1
  simp only [Bool.and_eq_true, Bool.or_eq_true, decide_eq_true_eq] at h1
  obtain ⟨⟨⟨⟨⟨⟨⟨⟨a1, a2⟩, a3⟩, a4⟩, a5⟩, a6⟩, a7⟩, a8⟩, a9⟩ := h1
  refine ⟨fun pc => ?_, a1, a2, a3, a4, a5, a8, g, a6, a7, ?_⟩
  · by_cases h : pc < len
    · have h4 := h2 pc h
      unfold zrowB at h4
      simp only [Bool.and_eq_true, Bool.or_eq_true, decide_eq_true_eq] at h4
      rcases h4 with h4 | ⟨⟨h4, h5⟩, h6⟩
      · exact Or.inl h4
      · exact Or.inr ⟨h4, h5, _, h6⟩
    · rw [h3 pc (by omega)]
      exact Or.inl rfl
  · rcases a9 with a9 | ⟨⟨⟨⟨⟨⟨b1, b2⟩, b3⟩, b4⟩, b5⟩, b6⟩, b7⟩
    · exact Or.inl a9
    · exact Or.inr ⟨⟨b1, b2⟩, zwd_mem b3, zwd_mem b4, zwd_mem b5, fun h => zwd_mem (b6 h), b7⟩
theorem zguard {len pc : Nat} {t : zT} (h : len ≤ pc) : Bool.rec (motive := fun _ => zT) zxno t (Nat.ble (Nat.succ pc) len) = zxno := by
  have e : Nat.ble (Nat.succ pc) len = false := by
    cases q : Nat.ble (Nat.succ pc) len with
    | false => rfl
    | true => exact absurd (Nat.le_of_ble_eq_true q) (by omega)
  rw [e]
def zps0 : List (Nat × Nat) := [(0, 1018), (4, 1020), (8, 6045), (12, 6047), (229, 2224), (234, 6212), (267, 2228), (297, 8213), (310, 2236), (319, 8221), (333, 3153), (343, 9052), (356, 3157), (366, 7123), (384, 3173), (399, 7153), (417, 3192), (432, 7181), (450, 3196), (465, 7185), (478, 3208), (488, 7209), (501, 3220), (511, 7225), (534, 3224), (554, 7237), (572, 3228), (587, 8001), (613, 3232), (636, 8005), (649, 3236), (659, 8009), (672, 4002), (682, 8021), (700, 4014), (715, 8025), (728, 4018), (738, 8029), (746, 4061), (751, 8069), (759, 4065), (764, 8073), (772, 4069), (777, 9056), (790, 4136), (800, 9100), (818, 4140), (833, 8077), (856, 4149), (876, 8086), (889, 4167), (899, 8090), (917, 4171), (932, 8098), (945, 4179), (955, 8114), (968, 4197), (978, 8118), (1001, 4201), (1021, 8122), (1034, 4229), (1044, 8130), (1052, 5005), (1057, 8134), (1070, 5010), (1080, 8138), (1093, 5022), (1103, 7115), (1116, 5031), (1126, 7119), (1139, 5035), (1149, 6216), (1162, 5139), (1172, 7095), (1190, 5148), (1205, 7103), (1223, 5156), (1238, 7107), (1251, 5172), (1261, 7111), (1274, 5176), (1284, 8142), (1307, 5214), (1327, 8169), (1345, 5218), (1360, 8173), (1383, 5222), (1403, 8177), (1411, 5230), (1416, 8181), (1429, 5234), (1439, 8185), (1457, 6037), (1472, 8209)]
set_option maxRecDepth 100000 in
theorem zr0_0 : ∀ i, i < 60 → zrowB (yL_law, cL_law, some .boolean, RL) zps0 (0 + i) (zxi0 (0 + i)) = true := by decide +kernel
set_option maxRecDepth 100000 in
theorem zr0_1 : ∀ i, i < 60 → zrowB (yL_law, cL_law, some .boolean, RL) zps0 (60 + i) (zxi0 (60 + i)) = true := by decide +kernel
set_option maxRecDepth 100000 in
theorem zr0_2 : ∀ i, i < 60 → zrowB (yL_law, cL_law, some .boolean, RL) zps0 (120 + i) (zxi0 (120 + i)) = true := by decide +kernel
set_option maxRecDepth 100000 in
theorem zr0_3 : ∀ i, i < 60 → zrowB (yL_law, cL_law, some .boolean, RL) zps0 (180 + i) (zxi0 (180 + i)) = true := by decide +kernel
set_option maxRecDepth 100000 in
theorem zr0_4 : ∀ i, i < 60 → zrowB (yL_law, cL_law, some .boolean, RL) zps0 (240 + i) (zxi0 (240 + i)) = true := by decide +kernel
set_option maxRecDepth 100000 in
theorem zr0_5 : ∀ i, i < 60 → zrowB (yL_law, cL_law, some .boolean, RL) zps0 (300 + i) (zxi0 (300 + i)) = true := by decide +kernel
set_option maxRecDepth 100000 in
theorem zr0_6 : ∀ i, i < 60 → zrowB (yL_law, cL_law, some .boolean, RL) zps0 (360 + i) (zxi0 (360 + i)) = true := by decide +kernel
set_option maxRecDepth 100000 in
theorem zr0_7 : ∀ i, i < 60 → zrowB (yL_law, cL_law, some .boolean, RL) zps0 (420 + i) (zxi0 (420 + i)) = true := by decide +kernel
set_option maxRecDepth 100000 in
theorem zr0_8 : ∀ i, i < 60 → zrowB (yL_law, cL_law, some .boolean, RL) zps0 (480 + i) (zxi0 (480 + i)) = true := by decide +kernel
set_option maxRecDepth 100000 in
theorem zr0_9 : ∀ i, i < 60 → zrowB (yL_law, cL_law, some .boolean, RL) zps0 (540 + i) (zxi0 (540 + i)) = true := by decide +kernel
set_option maxRecDepth 100000 in
theorem zr0_10 : ∀ i, i < 60 → zrowB (yL_law, cL_law, some .boolean, RL) zps0 (600 + i) (zxi0 (600 + i)) = true := by decide +kernel
set_option maxRecDepth 100000 in
theorem zr0_11 : ∀ i, i < 60 → zrowB (yL_law, cL_law, some .boolean, RL) zps0 (660 + i) (zxi0 (660 + i)) = true := by decide +kernel
set_option maxRecDepth 100000 in
theorem zr0_12 : ∀ i, i < 60 → zrowB (yL_law, cL_law, some .boolean, RL) zps0 (720 + i) (zxi0 (720 + i)) = true := by decide +kernel
set_option maxRecDepth 100000 in
theorem zr0_13 : ∀ i, i < 60 → zrowB (yL_law, cL_law, some .boolean, RL) zps0 (780 + i) (zxi0 (780 + i)) = true := by decide +kernel
set_option maxRecDepth 100000 in
theorem zr0_14 : ∀ i, i < 60 → zrowB (yL_law, cL_law, some .boolean, RL) zps0 (840 + i) (zxi0 (840 + i)) = true := by decide +kernel
set_option maxRecDepth 100000 in
theorem zr0_15 : ∀ i, i < 60 → zrowB (yL_law, cL_law, some .boolean, RL) zps0 (900 + i) (zxi0 (900 + i)) = true := by decide +kernel
set_option maxRecDepth 100000 in
theorem zr0_16 : ∀ i, i < 60 → zrowB (yL_law, cL_law, some .boolean, RL) zps0 (960 + i) (zxi0 (960 + i)) = true := by decide +kernel
set_option maxRecDepth 100000 in
theorem zr0_17 : ∀ i, i < 60 → zrowB (yL_law, cL_law, some .boolean, RL) zps0 (1020 + i) (zxi0 (1020 + i)) = true := by decide +kernel
set_option maxRecDepth 100000 in
theorem zr0_18 : ∀ i, i < 60 → zrowB (yL_law, cL_law, some .boolean, RL) zps0 (1080 + i) (zxi0 (1080 + i)) = true := by decide +kernel
set_option maxRecDepth 100000 in
theorem zr0_19 : ∀ i, i < 60 → zrowB (yL_law, cL_law, some .boolean, RL) zps0 (1140 + i) (zxi0 (1140 + i)) = true := by decide +kernel
set_option maxRecDepth 100000 in
theorem zr0_20 : ∀ i, i < 60 → zrowB (yL_law, cL_law, some .boolean, RL) zps0 (1200 + i) (zxi0 (1200 + i)) = true := by decide +kernel
set_option maxRecDepth 100000 in
theorem zr0_21 : ∀ i, i < 60 → zrowB (yL_law, cL_law, some .boolean, RL) zps0 (1260 + i) (zxi0 (1260 + i)) = true := by decide +kernel
set_option maxRecDepth 100000 in
theorem zr0_22 : ∀ i, i < 60 → zrowB (yL_law, cL_law, some .boolean, RL) zps0 (1320 + i) (zxi0 (1320 + i)) = true := by decide +kernel
set_option maxRecDepth 100000 in
theorem zr0_23 : ∀ i, i < 60 → zrowB (yL_law, cL_law, some .boolean, RL) zps0 (1380 + i) (zxi0 (1380 + i)) = true := by decide +kernel
set_option maxRecDepth 100000 in
theorem zr0_24 : ∀ i, i < 47 → zrowB (yL_law, cL_law, some .boolean, RL) zps0 (1440 + i) (zxi0 (1440 + i)) = true := by decide +kernel
theorem zr0 : ∀ pc, pc < 1487 → zrowB (yL_law, cL_law, some .boolean, RL) zps0 pc (zxi0 pc) = true := by
  intro pc h
  rcases Nat.lt_or_ge pc 60 with g0 | g0
  · have e := zr0_0 (pc - 0) (by omega)
    rwa [show 0 + (pc - 0) = pc by omega] at e
  rcases Nat.lt_or_ge pc 120 with g1 | g1
  · have e := zr0_1 (pc - 60) (by omega)
    rwa [show 60 + (pc - 60) = pc by omega] at e
  rcases Nat.lt_or_ge pc 180 with g2 | g2
  · have e := zr0_2 (pc - 120) (by omega)
    rwa [show 120 + (pc - 120) = pc by omega] at e
  rcases Nat.lt_or_ge pc 240 with g3 | g3
  · have e := zr0_3 (pc - 180) (by omega)
    rwa [show 180 + (pc - 180) = pc by omega] at e
  rcases Nat.lt_or_ge pc 300 with g4 | g4
  · have e := zr0_4 (pc - 240) (by omega)
    rwa [show 240 + (pc - 240) = pc by omega] at e
  rcases Nat.lt_or_ge pc 360 with g5 | g5
  · have e := zr0_5 (pc - 300) (by omega)
    rwa [show 300 + (pc - 300) = pc by omega] at e
  rcases Nat.lt_or_ge pc 420 with g6 | g6
  · have e := zr0_6 (pc - 360) (by omega)
    rwa [show 360 + (pc - 360) = pc by omega] at e
  rcases Nat.lt_or_ge pc 480 with g7 | g7
  · have e := zr0_7 (pc - 420) (by omega)
    rwa [show 420 + (pc - 420) = pc by omega] at e
  rcases Nat.lt_or_ge pc 540 with g8 | g8
  · have e := zr0_8 (pc - 480) (by omega)
    rwa [show 480 + (pc - 480) = pc by omega] at e
  rcases Nat.lt_or_ge pc 600 with g9 | g9
  · have e := zr0_9 (pc - 540) (by omega)
    rwa [show 540 + (pc - 540) = pc by omega] at e
  rcases Nat.lt_or_ge pc 660 with g10 | g10
  · have e := zr0_10 (pc - 600) (by omega)
    rwa [show 600 + (pc - 600) = pc by omega] at e
  rcases Nat.lt_or_ge pc 720 with g11 | g11
  · have e := zr0_11 (pc - 660) (by omega)
    rwa [show 660 + (pc - 660) = pc by omega] at e
  rcases Nat.lt_or_ge pc 780 with g12 | g12
  · have e := zr0_12 (pc - 720) (by omega)
    rwa [show 720 + (pc - 720) = pc by omega] at e
  rcases Nat.lt_or_ge pc 840 with g13 | g13
  · have e := zr0_13 (pc - 780) (by omega)
    rwa [show 780 + (pc - 780) = pc by omega] at e
  rcases Nat.lt_or_ge pc 900 with g14 | g14
  · have e := zr0_14 (pc - 840) (by omega)
    rwa [show 840 + (pc - 840) = pc by omega] at e
  rcases Nat.lt_or_ge pc 960 with g15 | g15
  · have e := zr0_15 (pc - 900) (by omega)
    rwa [show 900 + (pc - 900) = pc by omega] at e
  rcases Nat.lt_or_ge pc 1020 with g16 | g16
  · have e := zr0_16 (pc - 960) (by omega)
    rwa [show 960 + (pc - 960) = pc by omega] at e
  rcases Nat.lt_or_ge pc 1080 with g17 | g17
  · have e := zr0_17 (pc - 1020) (by omega)
    rwa [show 1020 + (pc - 1020) = pc by omega] at e
  rcases Nat.lt_or_ge pc 1140 with g18 | g18
  · have e := zr0_18 (pc - 1080) (by omega)
    rwa [show 1080 + (pc - 1080) = pc by omega] at e
  rcases Nat.lt_or_ge pc 1200 with g19 | g19
  · have e := zr0_19 (pc - 1140) (by omega)
    rwa [show 1140 + (pc - 1140) = pc by omega] at e
  rcases Nat.lt_or_ge pc 1260 with g20 | g20
  · have e := zr0_20 (pc - 1200) (by omega)
    rwa [show 1200 + (pc - 1200) = pc by omega] at e
  rcases Nat.lt_or_ge pc 1320 with g21 | g21
  · have e := zr0_21 (pc - 1260) (by omega)
    rwa [show 1260 + (pc - 1260) = pc by omega] at e
  rcases Nat.lt_or_ge pc 1380 with g22 | g22
  · have e := zr0_22 (pc - 1320) (by omega)
    rwa [show 1320 + (pc - 1320) = pc by omega] at e
  rcases Nat.lt_or_ge pc 1440 with g23 | g23
  · have e := zr0_23 (pc - 1380) (by omega)
    rwa [show 1380 + (pc - 1380) = pc by omega] at e
  rcases Nat.lt_or_ge pc 1487 with g24 | g24
  · have e := zr0_24 (pc - 1440) (by omega)
    rwa [show 1440 + (pc - 1440) = pc by omega] at e
  omega
set_option maxRecDepth 100000 in
theorem zh0 : zheadB 0 (zxi0, 0, 4, 17, 0, 600000, 7302250, 2, 0) (yL_law, cL_law, some .boolean, RL) 3 0 0 0 0 = true := by decide +kernel
theorem zm0 : zOK 0 (zxi0, 0, 4, 17, 0, 600000, 7302250, 2, 0) (yL_law, cL_law, some .boolean, RL) := zOK_of zh0 zr0 (fun pc h => zguard h)
def zps1 : List (Nat × Nat) := [(1, 2094), (10, 2095)]
set_option maxRecDepth 100000 in
theorem zr1 : ∀ pc, pc < 14 → zrowB (yX0_init, cX0_init, none, RX0) zps1 pc (zxi1 pc) = true := by decide +kernel
set_option maxRecDepth 100000 in
theorem zh1 : zheadB 1 (zxi1, 1, 1, 0, 1, 1, 1140, 0, 1) (yX0_init, cX0_init, none, RX0) 1 2093 1010 2092 0 = true := by decide +kernel
theorem zm1 : zOK 1 (zxi1, 1, 1, 0, 1, 1, 1140, 0, 1) (yX0_init, cX0_init, none, RX0) := zOK_of zh1 zr1 (fun pc h => zguard h)
def zps2 : List (Nat × Nat) := [(2, 2096), (7, 2097), (15, 2096), (23, 2095)]
set_option maxRecDepth 100000 in
theorem zr2 : ∀ pc, pc < 42 → zrowB (yX0_begin, cX0_begin, none, RX0) zps2 pc (zxi2 pc) = true := by decide +kernel
set_option maxRecDepth 100000 in
theorem zh2 : zheadB 2 (zxi2, 2, 3, 0, 2, 0, 0, 0, 0) (yX0_begin, cX0_begin, none, RX0) 0 5063 1010 5062 85 = true := by decide +kernel
theorem zm2 : zOK 2 (zxi2, 2, 3, 0, 2, 0, 0, 0, 0) (yX0_begin, cX0_begin, none, RX0) := zOK_of zh2 zr2 (fun pc h => zguard h)
def zps3 : List (Nat × Nat) := [(4, 5068), (13, 1109), (19, 5069)]
set_option maxRecDepth 100000 in
theorem zr3 : ∀ pc, pc < 29 → zrowB (yX0_follow, cX0_follow, none, RX0) zps3 pc (zxi3 pc) = true := by decide +kernel
set_option maxRecDepth 100000 in
theorem zh3 : zheadB 3 (zxi3, 3, 4, 0, 3, 0, 0, 0, 0) (yX0_follow, cX0_follow, none, RX0) 0 5067 1010 5066 86 = true := by decide +kernel
theorem zm3 : zOK 3 (zxi3, 3, 4, 0, 3, 0, 0, 0, 0) (yX0_follow, cX0_follow, none, RX0) := zOK_of zh3 zr3 (fun pc h => zguard h)
def zps4 : List (Nat × Nat) := [(1, 5068), (13, 1109), (18, 5069)]
set_option maxRecDepth 100000 in
theorem zr4 : ∀ pc, pc < 28 → zrowB (yX0_followBack, cX0_followBack, none, RX0) zps4 pc (zxi4 pc) = true := by decide +kernel
set_option maxRecDepth 100000 in
theorem zh4 : zheadB 4 (zxi4, 2, 3, 0, 4, 0, 0, 0, 0) (yX0_followBack, cX0_followBack, none, RX0) 0 5134 1010 5133 101 = true := by decide +kernel
theorem zm4 : zOK 4 (zxi4, 2, 3, 0, 4, 0, 0, 0, 0) (yX0_followBack, cX0_followBack, none, RX0) := zOK_of zh4 zr4 (fun pc h => zguard h)
def zps5 : List (Nat × Nat) := [(1, 5073), (12, 2096), (57, 5074), (66, 5078), (76, 5078), (85, 5083), (94, 5091), (100, 5074), (109, 5091), (118, 5078), (124, 5074), (133, 5083), (142, 5078), (151, 5091), (160, 5091), (169, 5083), (178, 5083), (186, 5095), (195, 5091), (204, 5091), (210, 5099), (219, 5099), (228, 5099), (237, 5099), (244, 5107)]
set_option maxRecDepth 100000 in
theorem zr5 : ∀ pc, pc < 248 → zrowB (yX0_act, cX0_act, none, RX0) zps5 pc (zxi5 pc) = true := by decide +kernel
set_option maxRecDepth 100000 in
theorem zh5 : zheadB 5 (zxi5, 2, 8, 0, 5, 0, 0, 0, 0) (yX0_act, cX0_act, none, RX0) 0 5072 1010 5071 87 = true := by decide +kernel
theorem zm5 : zOK 5 (zxi5, 2, 8, 0, 5, 0, 0, 0, 0) (yX0_act, cX0_act, none, RX0) := zOK_of zh5 zr5 (fun pc h => zguard h)
def zps6 : List (Nat × Nat) := [(4, 2097), (11, 2095)]
set_option maxRecDepth 100000 in
theorem zr6 : ∀ pc, pc < 29 → zrowB (yX0_wipe, cX0_wipe, none, RX0) zps6 pc (zxi6 pc) = true := by decide +kernel
set_option maxRecDepth 100000 in
theorem zh6 : zheadB 6 (zxi6, 2, 3, 0, 6, 0, 0, 0, 0) (yX0_wipe, cX0_wipe, none, RX0) 0 5077 1010 5076 88 = true := by decide +kernel
theorem zm6 : zOK 6 (zxi6, 2, 3, 0, 6, 0, 0, 0, 0) (yX0_wipe, cX0_wipe, none, RX0) := zOK_of zh6 zr6 (fun pc h => zguard h)
def zps7 : List (Nat × Nat) := [(13, 2097), (34, 2095), (46, 2095), (63, 2095), (73, 5082), (92, 2095), (105, 2095)]
set_option maxRecDepth 100000 in
theorem zr7 : ∀ pc, pc < 121 → zrowB (yX0_addTo, cX0_addTo, none, RX0) zps7 pc (zxi7 pc) = true := by decide +kernel
set_option maxRecDepth 100000 in
theorem zh7 : zheadB 7 (zxi7, 4, 12, 0, 7, 0, 0, 0, 0) (yX0_addTo, cX0_addTo, none, RX0) 0 5081 1010 5080 89 = true := by decide +kernel
theorem zm7 : zOK 7 (zxi7, 4, 12, 0, 7, 0, 0, 0, 0) (yX0_addTo, cX0_addTo, none, RX0) := zOK_of zh7 zr7 (fun pc h => zguard h)
def zps8 : List (Nat × Nat) := [(2, 5087), (12, 5078)]
set_option maxRecDepth 100000 in
theorem zr8 : ∀ pc, pc < 16 → zrowB (yX0_addUpper, cX0_addUpper, none, RX0) zps8 pc (zxi8 pc) = true := by decide +kernel
set_option maxRecDepth 100000 in
theorem zh8 : zheadB 8 (zxi8, 4, 4, 0, 8, 0, 0, 0, 0) (yX0_addUpper, cX0_addUpper, none, RX0) 0 5094 1010 5093 92 = true := by decide +kernel
theorem zm8 : zOK 8 (zxi8, 4, 4, 0, 8, 0, 0, 0, 0) (yX0_addUpper, cX0_addUpper, none, RX0) := zOK_of zh8 zr8 (fun pc h => zguard h)
def zps9 : List (Nat × Nat) := [(2, 5087), (12, 5078)]
set_option maxRecDepth 100000 in
theorem zr9 : ∀ pc, pc < 16 → zrowB (yX0_addLower, cX0_addLower, none, RX0) zps9 pc (zxi9 pc) = true := by decide +kernel
set_option maxRecDepth 100000 in
theorem zh9 : zheadB 9 (zxi9, 4, 4, 0, 9, 0, 0, 0, 0) (yX0_addLower, cX0_addLower, none, RX0) 0 5086 1010 5085 90 = true := by decide +kernel
theorem zm9 : zOK 9 (zxi9, 4, 4, 0, 9, 0, 0, 0, 0) (yX0_addLower, cX0_addLower, none, RX0) := zOK_of zh9 zr9 (fun pc h => zguard h)
def zps10 : List (Nat × Nat) := [(1, 2095), (9, 2097)]
set_option maxRecDepth 100000 in
theorem zr10 : ∀ pc, pc < 27 → zrowB (yX0_isBelowZero, cX0_isBelowZero, some .boolean, RX0) zps10 pc (zxi10 pc) = true := by decide +kernel
set_option maxRecDepth 100000 in
theorem zh10 : zheadB 10 (zxi10, 2, 2, 0, 10, 0, 0, 2, 0) (yX0_isBelowZero, cX0_isBelowZero, some .boolean, RX0) 0 5090 1010 5089 91 = true := by decide +kernel
theorem zm10 : zOK 10 (zxi10, 2, 2, 0, 10, 0, 0, 2, 0) (yX0_isBelowZero, cX0_isBelowZero, some .boolean, RX0) := zOK_of zh10 zr10 (fun pc h => zguard h)
def zps11 : List (Nat × Nat) := [(4, 2097), (11, 2095), (24, 2095), (34, 2095), (46, 2095)]
set_option maxRecDepth 100000 in
theorem zr11 : ∀ pc, pc < 65 → zrowB (yX0_swap, cX0_swap, none, RX0) zps11 pc (zxi11 pc) = true := by decide +kernel
set_option maxRecDepth 100000 in
theorem zh11 : zheadB 11 (zxi11, 3, 6, 0, 11, 0, 0, 0, 0) (yX0_swap, cX0_swap, none, RX0) 0 5098 1010 5097 93 = true := by decide +kernel
theorem zm11 : zOK 11 (zxi11, 3, 6, 0, 11, 0, 0, 0, 0) (yX0_swap, cX0_swap, none, RX0) := zOK_of zh11 zr11 (fun pc h => zguard h)
def zps12 : List (Nat × Nat) := [(1, 2095), (9, 2097), (16, 5103), (19, 5106)]
set_option maxRecDepth 100000 in
theorem zr12 : ∀ pc, pc < 32 → zrowB (yX0_isBig, cX0_isBig, some .boolean, RX0) zps12 pc (zxi12 pc) = true := by decide +kernel
set_option maxRecDepth 100000 in
theorem zh12 : zheadB 12 (zxi12, 2, 2, 0, 12, 0, 0, 2, 0) (yX0_isBig, cX0_isBig, some .boolean, RX0) 0 5102 1010 5101 94 = true := by decide +kernel
theorem zm12 : zOK 12 (zxi12, 2, 2, 0, 12, 0, 0, 2, 0) (yX0_isBig, cX0_isBig, some .boolean, RX0) := zOK_of zh12 zr12 (fun pc h => zguard h)
def zps13 : List (Nat × Nat) := [(1, 2097), (15, 2096), (27, 2097), (35, 2095), (42, 2095), (52, 2095), (58, 5082), (71, 2097), (76, 2097)]
set_option maxRecDepth 100000 in
theorem zr13 : ∀ pc, pc < 80 → zrowB (yX0_widen, cX0_widen, none, RX0) zps13 pc (zxi13 pc) = true := by decide +kernel
set_option maxRecDepth 100000 in
theorem zh13 : zheadB 13 (zxi13, 1, 3, 0, 13, 0, 0, 0, 0) (yX0_widen, cX0_widen, none, RX0) 0 5110 1010 5109 95 = true := by decide +kernel
theorem zm13 : zOK 13 (zxi13, 1, 3, 0, 13, 0, 0, 0, 0) (yX0_widen, cX0_widen, none, RX0) := zOK_of zh13 zr13 (fun pc h => zguard h)
def zps14 : List (Nat × Nat) := [(9, 2097), (13, 2097), (20, 5107), (38, 2097), (42, 2097), (49, 5107), (63, 2096), (74, 2097), (81, 2095), (92, 2095)]
set_option maxRecDepth 100000 in
theorem zr14 : ∀ pc, pc < 122 → zrowB (yX0_matches, cX0_matches, some .boolean, RX0) zps14 pc (zxi14 pc) = true := by decide +kernel
set_option maxRecDepth 100000 in
theorem zh14 : zheadB 14 (zxi14, 2, 4, 0, 14, 0, 0, 2, 0) (yX0_matches, cX0_matches, some .boolean, RX0) 0 5114 1010 5113 96 = true := by decide +kernel
theorem zm14 : zOK 14 (zxi14, 2, 4, 0, 14, 0, 0, 2, 0) (yX0_matches, cX0_matches, some .boolean, RX0) := zOK_of zh14 zr14 (fun pc h => zguard h)
def zps15 : List (Nat × Nat) := [(1, 1037), (9, 1055), (17, 1058), (25, 1062), (33, 1064), (41, 1066), (49, 1069), (57, 1072)]
set_option maxRecDepth 100000 in
theorem zr15 : ∀ pc, pc < 61 → zrowB (yX1_init, cX1_init, none, RX1) zps15 pc (zxi15 pc) = true := by decide +kernel
set_option maxRecDepth 100000 in
theorem zh15 : zheadB 15 (zxi15, 1, 1, 1, 15, 7, 462, 0, 2) (yX1_init, cX1_init, none, RX1) 1 1036 1003 1035 0 = true := by decide +kernel
theorem zm15 : zOK 15 (zxi15, 1, 1, 1, 15, 7, 462, 0, 2) (yX1_init, cX1_init, none, RX1) := zOK_of zh15 zr15 (fun pc h => zguard h)
def zps16 : List (Nat × Nat) := [(2, 1038), (7, 1041), (13, 1038), (18, 1041), (22, 1045), (27, 1049), (34, 1038), (46, 1041), (56, 2160), (75, 1038), (89, 1041), (101, 2164), (111, 2164), (114, 2168), (135, 1038), (147, 1041), (159, 2164), (169, 2164), (172, 2168)]
set_option maxRecDepth 100000 in
theorem zr16 : ∀ pc, pc < 188 → zrowB (yX1_build, cX1_build, none, RX1) zps16 pc (zxi16 pc) = true := by decide +kernel
set_option maxRecDepth 100000 in
theorem zh16 : zheadB 16 (zxi16, 3, 5, 1, 16, 0, 0, 0, 0) (yX1_build, cX1_build, none, RX1) 0 2159 1003 2158 1 = true := by decide +kernel
theorem zm16 : zOK 16 (zxi16, 3, 5, 1, 16, 0, 0, 0, 0) (yX1_build, cX1_build, none, RX1) := zOK_of zh16 zr16 (fun pc h => zguard h)
def zps17 : List (Nat × Nat) := [(3, 1041)]
set_option maxRecDepth 100000 in
theorem zr17 : ∀ pc, pc < 13 → zrowB (yX1_slotOf, cX1_slotOf, some .int, RX1) zps17 pc (zxi17 pc) = true := by decide +kernel
set_option maxRecDepth 100000 in
theorem zh17 : zheadB 17 (zxi17, 4, 4, 1, 17, 0, 0, 1, 0) (yX1_slotOf, cX1_slotOf, some .int, RX1) 0 2167 1003 2166 3 = true := by decide +kernel
theorem zm17 : zOK 17 (zxi17, 4, 4, 1, 17, 0, 0, 1, 0) (yX1_slotOf, cX1_slotOf, some .int, RX1) := zOK_of zh17 zr17 (fun pc h => zguard h)
def zps18 : List (Nat × Nat) := [(28, 2164), (34, 1055), (48, 2164), (53, 1058), (61, 1062), (69, 1064), (103, 1066)]
set_option maxRecDepth 100000 in
theorem zr18 : ∀ pc, pc < 142 → zrowB (yX1_buildWheel, cX1_buildWheel, none, RX1) zps18 pc (zxi18 pc) = true := by decide +kernel
set_option maxRecDepth 100000 in
theorem zh18 : zheadB 18 (zxi18, 3, 6, 1, 18, 0, 0, 0, 0) (yX1_buildWheel, cX1_buildWheel, none, RX1) 0 2163 1003 2162 2 = true := by decide +kernel
theorem zm18 : zOK 18 (zxi18, 3, 6, 1, 18, 0, 0, 0, 0) (yX1_buildWheel, cX1_buildWheel, none, RX1) := zOK_of zh18 zr18 (fun pc h => zguard h)
def zps19 : List (Nat × Nat) := [(1, 1069), (5, 1049), (11, 1072), (15, 1049), (21, 1058), (28, 1058), (35, 1062), (40, 1049), (45, 1062), (50, 1049), (56, 1049), (61, 1049)]
set_option maxRecDepth 100000 in
theorem zr19 : ∀ pc, pc < 65 → zrowB (yX1_join, cX1_join, none, RX1) zps19 pc (zxi19 pc) = true := by decide +kernel
set_option maxRecDepth 100000 in
theorem zh19 : zheadB 19 (zxi19, 3, 3, 1, 19, 0, 0, 0, 0) (yX1_join, cX1_join, none, RX1) 0 2171 1003 2170 4 = true := by decide +kernel
theorem zm19 : zOK 19 (zxi19, 3, 3, 1, 19, 0, 0, 0, 0) (yX1_join, cX1_join, none, RX1) := zOK_of zh19 zr19 (fun pc h => zguard h)
def zps20 : List (Nat × Nat) := [(3, 1064), (10, 1066)]
set_option maxRecDepth 100000 in
theorem zr20 : ∀ pc, pc < 17 → zrowB (yX1_rank, cX1_rank, some .int, RX1) zps20 pc (zxi20 pc) = true := by decide +kernel
set_option maxRecDepth 100000 in
theorem zh20 : zheadB 20 (zxi20, 2, 2, 1, 20, 0, 0, 1, 0) (yX1_rank, cX1_rank, some .int, RX1) 0 2183 1003 2182 7 = true := by decide +kernel
theorem zm20 : zOK 20 (zxi20, 2, 2, 1, 20, 0, 0, 1, 0) (yX1_rank, cX1_rank, some .int, RX1) := zOK_of zh20 zr20 (fun pc h => zguard h)
def zps21 : List (Nat × Nat) := [(1, 1055), (8, 1062), (32, 1058)]
set_option maxRecDepth 100000 in
theorem zr21 : ∀ pc, pc < 42 → zrowB (yX1_moved, cX1_moved, some .int, RX1) zps21 pc (zxi21 pc) = true := by decide +kernel
set_option maxRecDepth 100000 in
theorem zh21 : zheadB 21 (zxi21, 3, 5, 1, 21, 0, 0, 1, 0) (yX1_moved, cX1_moved, some .int, RX1) 0 4148 1003 4147 62 = true := by decide +kernel
theorem zm21 : zOK 21 (zxi21, 3, 5, 1, 21, 0, 0, 1, 0) (yX1_moved, cX1_moved, some .int, RX1) := zOK_of zh21 zr21 (fun pc h => zguard h)
def zps22 : List (Nat × Nat) := [(1, 2130), (10, 2135), (18, 2136)]
set_option maxRecDepth 100000 in
theorem zr22 : ∀ pc, pc < 22 → zrowB (yX2_init, cX2_init, none, RX2) zps22 pc (zxi22 pc) = true := by decide +kernel
set_option maxRecDepth 100000 in
theorem zh22 : zheadB 22 (zxi22, 1, 1, 2, 22, 2, 1872, 0, 3) (yX2_init, cX2_init, none, RX2) 1 2129 1012 2128 0 = true := by decide +kernel
theorem zm22 : zOK 22 (zxi22, 1, 1, 2, 22, 2, 1872, 0, 3) (yX2_init, cX2_init, none, RX2) := zOK_of zh22 zr22 (fun pc h => zguard h)
def zps23 : List (Nat × Nat) := [(2, 2136), (5, 6002), (10, 1124), (13, 1048), (21, 2133), (26, 2131), (35, 6006), (44, 6029), (50, 2131), (70, 6006), (80, 6029), (90, 2133), (99, 2131), (118, 6033)]
set_option maxRecDepth 100000 in
theorem zr23 : ∀ pc, pc < 128 → zrowB (yX2_work, cX2_work, none, RX2) zps23 pc (zxi23 pc) = true := by decide +kernel
set_option maxRecDepth 100000 in
theorem zh23 : zheadB 23 (zxi23, 4, 6, 2, 23, 0, 0, 0, 0) (yX2_work, cX2_work, none, RX2) 0 6001 1012 6000 117 = true := by decide +kernel
theorem zm23 : zOK 23 (zxi23, 4, 6, 2, 23, 0, 0, 0, 0) (yX2_work, cX2_work, none, RX2) := zOK_of zh23 zr23 (fun pc h => zguard h)
def zps24 : List (Nat × Nat) := [(7, 6006), (15, 2137), (21, 2138), (40, 1124), (43, 1048), (88, 6006), (99, 6029)]
set_option maxRecDepth 100000 in
theorem zr24 : ∀ pc, pc < 109 → zrowB (yX2_workBehind, cX2_workBehind, none, RX2) zps24 pc (zxi24 pc) = true := by decide +kernel
set_option maxRecDepth 100000 in
theorem zh24 : zheadB 24 (zxi24, 5, 9, 2, 24, 0, 0, 0, 0) (yX2_workBehind, cX2_workBehind, none, RX2) 0 6036 1012 6035 123 = true := by decide +kernel
theorem zm24 : zOK 24 (zxi24, 5, 9, 2, 24, 0, 0, 0, 0) (yX2_workBehind, cX2_workBehind, none, RX2) := zOK_of zh24 zr24 (fun pc h => zguard h)
def zps25 : List (Nat × Nat) := [(1, 2133), (5, 2135), (13, 2135), (17, 2133), (29, 2133), (34, 2133)]
set_option maxRecDepth 100000 in
theorem zr25 : ∀ pc, pc < 38 → zrowB (yX2_keep, cX2_keep, none, RX2) zps25 pc (zxi25 pc) = true := by decide +kernel
set_option maxRecDepth 100000 in
theorem zh25 : zheadB 25 (zxi25, 3, 3, 2, 25, 0, 0, 0, 0) (yX2_keep, cX2_keep, none, RX2) 0 6032 1012 6031 122 = true := by decide +kernel
theorem zm25 : zOK 25 (zxi25, 3, 3, 2, 25, 0, 0, 0, 0) (yX2_keep, cX2_keep, none, RX2) := zOK_of zh25 zr25 (fun pc h => zguard h)
def zps26 : List (Nat × Nat) := [(5, 2135), (17, 2135)]
set_option maxRecDepth 100000 in
theorem zr26 : ∀ pc, pc < 26 → zrowB (yX2_member, cX2_member, some .int, RX2) zps26 pc (zxi26 pc) = true := by decide +kernel
set_option maxRecDepth 100000 in
theorem zh26 : zheadB 26 (zxi26, 3, 3, 2, 26, 0, 0, 1, 0) (yX2_member, cX2_member, some .int, RX2) 0 6044 1012 6043 124 = true := by decide +kernel
theorem zm26 : zOK 26 (zxi26, 3, 3, 2, 26, 0, 0, 1, 0) (yX2_member, cX2_member, some .int, RX2) := zOK_of zh26 zr26 (fun pc h => zguard h)
def zps27 : List (Nat × Nat) := [(2, 6010), (7, 6010), (15, 6013), (20, 6013), (27, 6016), (34, 2137), (39, 2138), (44, 6021), (58, 2136), (62, 2018), (65, 6022), (81, 6023), (89, 1124), (94, 6027), (104, 2137), (108, 2031), (115, 2137), (120, 2138), (124, 2031), (133, 2138), (137, 6028), (148, 6023)]
set_option maxRecDepth 100000 in
theorem zr27 : ∀ pc, pc < 152 → zrowB (yX2_explains, cX2_explains, some .boolean, RX2) zps27 pc (zxi27 pc) = true := by decide +kernel
set_option maxRecDepth 100000 in
theorem zh27 : zheadB 27 (zxi27, 6, 11, 2, 27, 0, 0, 2, 0) (yX2_explains, cX2_explains, some .boolean, RX2) 0 6009 1012 6008 119 = true := by decide +kernel
theorem zm27 : zOK 27 (zxi27, 6, 11, 2, 27, 0, 0, 2, 0) (yX2_explains, cX2_explains, some .boolean, RX2) := zOK_of zh27 zr27 (fun pc h => zguard h)
def zps28 : List (Nat × Nat) := []
set_option maxRecDepth 100000 in
theorem zr28 : ∀ pc, pc < 21 → zrowB (yX2_heldOpen, cX2_heldOpen, some .int, RX2) zps28 pc (zxi28 pc) = true := by decide +kernel
set_option maxRecDepth 100000 in
theorem zh28 : zheadB 28 (zxi28, 1, 1, 2, 28, 0, 0, 1, 0) (yX2_heldOpen, cX2_heldOpen, some .int, RX2) 2 6012 1012 6011 0 = true := by decide +kernel
theorem zm28 : zOK 28 (zxi28, 1, 1, 2, 28, 0, 0, 1, 0) (yX2_heldOpen, cX2_heldOpen, some .int, RX2) := zOK_of zh28 zr28 (fun pc h => zguard h)
def zps29 : List (Nat × Nat) := []
set_option maxRecDepth 100000 in
theorem zr29 : ∀ pc, pc < 20 → zrowB (yX2_heldShut, cX2_heldShut, some .int, RX2) zps29 pc (zxi29 pc) = true := by decide +kernel
set_option maxRecDepth 100000 in
theorem zh29 : zheadB 29 (zxi29, 1, 1, 2, 29, 0, 0, 1, 0) (yX2_heldShut, cX2_heldShut, some .int, RX2) 2 6015 1012 6014 0 = true := by decide +kernel
theorem zm29 : zOK 29 (zxi29, 1, 1, 2, 29, 0, 0, 1, 0) (yX2_heldShut, cX2_heldShut, some .int, RX2) := zOK_of zh29 zr29 (fun pc h => zguard h)
def zps30 : List (Nat × Nat) := [(1, 1031), (5, 1032), (9, 1034), (12, 1123), (20, 1129), (28, 1133), (36, 1137), (44, 1141), (52, 1150), (60, 1154), (64, 1099), (70, 1101), (73, 1162)]
set_option maxRecDepth 100000 in
theorem zr30 : ∀ pc, pc < 77 → zrowB (yX3_init, cX3_init, none, RX3) zps30 pc (zxi30 pc) = true := by decide +kernel
set_option maxRecDepth 100000 in
theorem zh30 : zheadB 30 (zxi30, 1, 1, 3, 30, 16, 915, 0, 4) (yX3_init, cX3_init, none, RX3) 1 1030 1002 1029 0 = true := by decide +kernel
theorem zm30 : zOK 30 (zxi30, 1, 1, 3, 30, 16, 915, 0, 4) (yX3_init, cX3_init, none, RX3) := zOK_of zh30 zr30 (fun pc h => zguard h)
def zps31 : List (Nat × Nat) := [(1, 1123), (6, 2156), (18, 1129), (25, 1133), (32, 1137), (39, 1141), (53, 1146), (58, 1158), (62, 1162), (66, 1114)]
set_option maxRecDepth 100000 in
theorem zr31 : ∀ pc, pc < 70 → zrowB (yX3_clear, cX3_clear, none, RX3) zps31 pc (zxi31 pc) = true := by decide +kernel
set_option maxRecDepth 100000 in
theorem zh31 : zheadB 31 (zxi31, 3, 4, 3, 31, 0, 0, 0, 0) (yX3_clear, cX3_clear, none, RX3) 0 2155 1002 2154 0 = true := by decide +kernel
theorem zm31 : zOK 31 (zxi31, 3, 4, 3, 31, 0, 0, 0, 0) (yX3_clear, cX3_clear, none, RX3) := zOK_of zh31 zr31 (fun pc h => zguard h)
def zps32 : List (Nat × Nat) := [(1, 1150), (5, 1146), (11, 1154), (15, 1146), (22, 1146), (27, 1146)]
set_option maxRecDepth 100000 in
theorem zr32 : ∀ pc, pc < 31 → zrowB (yX3_addBobbin, cX3_addBobbin, none, RX3) zps32 pc (zxi32 pc) = true := by decide +kernel
set_option maxRecDepth 100000 in
theorem zh32 : zheadB 32 (zxi32, 2, 2, 3, 32, 0, 0, 0, 0) (yX3_addBobbin, cX3_addBobbin, none, RX3) 0 3118 1002 3117 24 = true := by decide +kernel
theorem zm32 : zOK 32 (zxi32, 2, 2, 3, 32, 0, 0, 0, 0) (yX3_addBobbin, cX3_addBobbin, none, RX3) := zOK_of zh32 zr32 (fun pc h => zguard h)
def zps33 : List (Nat × Nat) := [(2, 1146), (7, 1146), (14, 1146), (21, 1150), (26, 1150), (35, 1154), (40, 1154)]
set_option maxRecDepth 100000 in
theorem zr33 : ∀ pc, pc < 55 → zrowB (yX3_dropBobbin, cX3_dropBobbin, none, RX3) zps33 pc (zxi33 pc) = true := by decide +kernel
set_option maxRecDepth 100000 in
theorem zh33 : zheadB 33 (zxi33, 2, 3, 3, 33, 0, 0, 0, 0) (yX3_dropBobbin, cX3_dropBobbin, none, RX3) 0 4009 1002 4008 41 = true := by decide +kernel
theorem zm33 : zOK 33 (zxi33, 2, 3, 3, 33, 0, 0, 0, 0) (yX3_dropBobbin, cX3_dropBobbin, none, RX3) := zOK_of zh33 zr33 (fun pc h => zguard h)
def zps34 : List (Nat × Nat) := [(4, 1146), (11, 1150), (21, 1123), (24, 1059), (30, 1150)]
set_option maxRecDepth 100000 in
theorem zr34 : ∀ pc, pc < 48 → zrowB (yX3_hasStartAt, cX3_hasStartAt, some .boolean, RX3) zps34 pc (zxi34 pc) = true := by decide +kernel
set_option maxRecDepth 100000 in
theorem zh34 : zheadB 34 (zxi34, 2, 3, 3, 34, 0, 0, 2, 0) (yX3_hasStartAt, cX3_hasStartAt, some .boolean, RX3) 0 3114 1002 3113 23 = true := by decide +kernel
theorem zm34 : zOK 34 (zxi34, 2, 3, 3, 34, 0, 0, 2, 0) (yX3_hasStartAt, cX3_hasStartAt, some .boolean, RX3) := zOK_of zh34 zr34 (fun pc h => zguard h)
def zps35 : List (Nat × Nat) := [(6, 1123), (9, 1051), (16, 1141)]
set_option maxRecDepth 100000 in
theorem zr35 : ∀ pc, pc < 35 → zrowB (yX3_countFree, cX3_countFree, some .int, RX3) zps35 pc (zxi35 pc) = true := by decide +kernel
set_option maxRecDepth 100000 in
theorem zh35 : zheadB 35 (zxi35, 1, 3, 3, 35, 0, 0, 1, 0) (yX3_countFree, cX3_countFree, some .int, RX3) 0 3134 1002 3133 27 = true := by decide +kernel
theorem zm35 : zOK 35 (zxi35, 1, 3, 3, 35, 0, 0, 1, 0) (yX3_countFree, cX3_countFree, some .int, RX3) := zOK_of zh35 zr35 (fun pc h => zguard h)
def zps36 : List (Nat × Nat) := [(6, 1123), (9, 1051), (16, 1137)]
set_option maxRecDepth 100000 in
theorem zr36 : ∀ pc, pc < 35 → zrowB (yX3_countStuck, cX3_countStuck, some .int, RX3) zps36 pc (zxi36 pc) = true := by decide +kernel
set_option maxRecDepth 100000 in
theorem zh36 : zheadB 36 (zxi36, 1, 3, 3, 36, 0, 0, 1, 0) (yX3_countStuck, cX3_countStuck, some .int, RX3) 0 3165 1002 3164 32 = true := by decide +kernel
theorem zm36 : zOK 36 (zxi36, 1, 3, 3, 36, 0, 0, 1, 0) (yX3_countStuck, cX3_countStuck, some .int, RX3) := zOK_of zh36 zr36 (fun pc h => zguard h)
def zps37 : List (Nat × Nat) := [(6, 1123), (9, 1051), (17, 1133), (23, 3170)]
set_option maxRecDepth 100000 in
theorem zr37 : ∀ pc, pc < 36 → zrowB (yX3_period, cX3_period, some .int, RX3) zps37 pc (zxi37 pc) = true := by decide +kernel
set_option maxRecDepth 100000 in
theorem zh37 : zheadB 37 (zxi37, 1, 4, 3, 37, 0, 0, 1, 0) (yX3_period, cX3_period, some .int, RX3) 0 3169 1002 3168 33 = true := by decide +kernel
theorem zm37 : zOK 37 (zxi37, 1, 4, 3, 37, 0, 0, 1, 0) (yX3_period, cX3_period, some .int, RX3) := zOK_of zh37 zr37 (fun pc h => zguard h)
def zps38 : List (Nat × Nat) := [(1, 1133), (12, 1129), (19, 3189)]
set_option maxRecDepth 100000 in
theorem zr38 : ∀ pc, pc < 35 → zrowB (yX3_tellsOpen, cX3_tellsOpen, some .boolean, RX3) zps38 pc (zxi38 pc) = true := by decide +kernel
set_option maxRecDepth 100000 in
theorem zh38 : zheadB 38 (zxi38, 3, 4, 3, 38, 0, 0, 2, 0) (yX3_tellsOpen, cX3_tellsOpen, some .boolean, RX3) 0 3188 1002 3187 36 = true := by decide +kernel
theorem zm38 : zOK 38 (zxi38, 3, 4, 3, 38, 0, 0, 2, 0) (yX3_tellsOpen, cX3_tellsOpen, some .boolean, RX3) := zOK_of zh38 zr38 (fun pc h => zguard h)
def zps39 : List (Nat × Nat) := [(1, 1137), (11, 1137), (23, 3185)]
set_option maxRecDepth 100000 in
theorem zr39 : ∀ pc, pc < 35 → zrowB (yX3_opens, cX3_opens, some .boolean, RX3) zps39 pc (zxi39 pc) = true := by decide +kernel
set_option maxRecDepth 100000 in
theorem zh39 : zheadB 39 (zxi39, 3, 3, 3, 39, 0, 0, 2, 0) (yX3_opens, cX3_opens, some .boolean, RX3) 0 3184 1002 3183 35 = true := by decide +kernel
theorem zm39 : zOK 39 (zxi39, 3, 3, 3, 39, 0, 0, 2, 0) (yX3_opens, cX3_opens, some .boolean, RX3) := zOK_of zh39 zr39 (fun pc h => zguard h)
def zps40 : List (Nat × Nat) := [(16, 1123), (19, 1051), (29, 4026)]
set_option maxRecDepth 100000 in
theorem zr40 : ∀ pc, pc < 59 → zrowB (yX3_fillOpen, cX3_fillOpen, none, RX3) zps40 pc (zxi40 pc) = true := by decide +kernel
set_option maxRecDepth 100000 in
theorem zh40 : zheadB 40 (zxi40, 2, 5, 3, 40, 0, 0, 0, 0) (yX3_fillOpen, cX3_fillOpen, none, RX3) 0 4025 1002 4024 43 = true := by decide +kernel
theorem zm40 : zOK 40 (zxi40, 2, 5, 3, 40, 0, 0, 0, 0) (yX3_fillOpen, cX3_fillOpen, none, RX3) := zOK_of zh40 zr40 (fun pc h => zguard h)
def zps41 : List (Nat × Nat) := [(16, 1123), (19, 1051), (29, 3185)]
set_option maxRecDepth 100000 in
theorem zr41 : ∀ pc, pc < 59 → zrowB (yX3_fillPrograms, cX3_fillPrograms, none, RX3) zps41 pc (zxi41 pc) = true := by decide +kernel
set_option maxRecDepth 100000 in
theorem zh41 : zheadB 41 (zxi41, 2, 5, 3, 41, 0, 0, 0, 0) (yX3_fillPrograms, cX3_fillPrograms, none, RX3) 0 6005 1002 6004 118 = true := by decide +kernel
theorem zm41 : zOK 41 (zxi41, 2, 5, 3, 41, 0, 0, 0, 0) (yX3_fillPrograms, cX3_fillPrograms, none, RX3) := zOK_of zh41 zr41 (fun pc h => zguard h)
def zps42 : List (Nat × Nat) := [(2, 5192)]
set_option maxRecDepth 100000 in
theorem zr42 : ∀ pc, pc < 6 → zrowB (yX3_opened, cX3_opened, some .int, RX3) zps42 pc (zxi42 pc) = true := by decide +kernel
set_option maxRecDepth 100000 in
theorem zh42 : zheadB 42 (zxi42, 2, 2, 3, 42, 0, 0, 1, 0) (yX3_opened, cX3_opened, some .int, RX3) 0 5191 1002 5190 110 = true := by decide +kernel
theorem zm42 : zOK 42 (zxi42, 2, 2, 3, 42, 0, 0, 1, 0) (yX3_opened, cX3_opened, some .int, RX3) := zOK_of zh42 zr42 (fun pc h => zguard h)
def zps43 : List (Nat × Nat) := [(4, 5192)]
set_option maxRecDepth 100000 in
theorem zr43 : ∀ pc, pc < 8 → zrowB (yX3_shut, cX3_shut, some .int, RX3) zps43 pc (zxi43 pc) = true := by decide +kernel
set_option maxRecDepth 100000 in
theorem zh43 : zheadB 43 (zxi43, 2, 2, 3, 43, 0, 0, 1, 0) (yX3_shut, cX3_shut, some .int, RX3) 0 5199 1002 5198 112 = true := by decide +kernel
theorem zm43 : zOK 43 (zxi43, 2, 2, 3, 43, 0, 0, 1, 0) (yX3_shut, cX3_shut, some .int, RX3) := zOK_of zh43 zr43 (fun pc h => zguard h)
def zps44 : List (Nat × Nat) := [(10, 1123), (13, 1051), (20, 1141), (30, 1137)]
set_option maxRecDepth 100000 in
theorem zr44 : ∀ pc, pc < 66 → zrowB (yX3_heldBy, cX3_heldBy, some .int, RX3) zps44 pc (zxi44 pc) = true := by decide +kernel
set_option maxRecDepth 100000 in
theorem zh44 : zheadB 44 (zxi44, 2, 5, 3, 44, 0, 0, 1, 0) (yX3_heldBy, cX3_heldBy, some .int, RX3) 0 5195 1002 5194 111 = true := by decide +kernel
theorem zm44 : zOK 44 (zxi44, 2, 5, 3, 44, 0, 0, 1, 0) (yX3_heldBy, cX3_heldBy, some .int, RX3) := zOK_of zh44 zr44 (fun pc h => zguard h)
def zps45 : List (Nat × Nat) := [(1, 1230), (10, 1231)]
set_option maxRecDepth 100000 in
theorem zr45 : ∀ pc, pc < 14 → zrowB (yX4_init, cX4_init, none, RX4) zps45 pc (zxi45 pc) = true := by decide +kernel
set_option maxRecDepth 100000 in
theorem zh45 : zheadB 45 (zxi45, 1, 1, 4, 45, 1, 900, 0, 5) (yX4_init, cX4_init, none, RX4) 1 1229 1007 1228 0 = true := by decide +kernel
theorem zm45 : zOK 45 (zxi45, 1, 1, 4, 45, 1, 900, 0, 5) (yX4_init, cX4_init, none, RX4) := zOK_of zh45 zr45 (fun pc h => zguard h)
def zps46 : List (Nat × Nat) := [(2, 1236), (7, 4077), (11, 1235), (24, 1236), (29, 4077), (34, 1235), (37, 1233)]
set_option maxRecDepth 100000 in
theorem zr46 : ∀ pc, pc < 42 → zrowB (yX4_write, cX4_write, some .boolean, RX4) zps46 pc (zxi46 pc) = true := by decide +kernel
set_option maxRecDepth 100000 in
theorem zh46 : zheadB 46 (zxi46, 2, 2, 4, 46, 0, 0, 2, 0) (yX4_write, cX4_write, some .boolean, RX4) 0 4076 1007 4075 51 = true := by decide +kernel
theorem zm46 : zOK 46 (zxi46, 2, 2, 4, 46, 0, 0, 2, 0) (yX4_write, cX4_write, some .boolean, RX4) := zOK_of zh46 zr46 (fun pc h => zguard h)
def zps47 : List (Nat × Nat) := [(2, 1235), (8, 4082), (13, 1126), (16, 1039), (19, 4092), (24, 1126), (27, 1042), (30, 4092), (36, 4082), (41, 4097), (48, 1147), (57, 4082), (62, 1152), (67, 4092), (73, 4082), (84, 4103), (89, 4110), (94, 4115), (98, 1159), (106, 1163), (109, 4120)]
set_option maxRecDepth 100000 in
theorem zr47 : ∀ pc, pc < 113 → zrowB (yX4_writeAll, cX4_writeAll, none, RX4) zps47 pc (zxi47 pc) = true := by decide +kernel
set_option maxRecDepth 100000 in
theorem zh47 : zheadB 47 (zxi47, 2, 3, 4, 47, 0, 0, 0, 0) (yX4_writeAll, cX4_writeAll, none, RX4) 0 4080 1007 4079 52 = true := by decide +kernel
theorem zm47 : zOK 47 (zxi47, 2, 3, 4, 47, 0, 0, 0, 0) (yX4_writeAll, cX4_writeAll, none, RX4) := zOK_of zh47 zr47 (fun pc h => zguard h)
def zps48 : List (Nat × Nat) := [(4, 1126), (7, 1050), (14, 1134), (24, 1130), (35, 4082), (40, 4092), (47, 1134), (57, 1130), (66, 4092), (78, 4082)]
set_option maxRecDepth 100000 in
theorem zr48 : ∀ pc, pc < 88 → zrowB (yX4_writeSwitches, cX4_writeSwitches, none, RX4) zps48 pc (zxi48 pc) = true := by decide +kernel
set_option maxRecDepth 100000 in
theorem zh48 : zheadB 48 (zxi48, 2, 4, 4, 48, 0, 0, 0, 0) (yX4_writeSwitches, cX4_writeSwitches, none, RX4) 0 4100 1007 4099 56 = true := by decide +kernel
theorem zm48 : zOK 48 (zxi48, 2, 4, 4, 48, 0, 0, 0, 0) (yX4_writeSwitches, cX4_writeSwitches, none, RX4) := zOK_of zh48 zr48 (fun pc h => zguard h)
def zps49 : List (Nat × Nat) := [(4, 1126), (7, 1050), (14, 1138), (25, 4082), (30, 4092), (35, 1138), (51, 4082)]
set_option maxRecDepth 100000 in
theorem zr49 : ∀ pc, pc < 61 → zrowB (yX4_writeStuck, cX4_writeStuck, none, RX4) zps49 pc (zxi49 pc) = true := by decide +kernel
set_option maxRecDepth 100000 in
theorem zh49 : zheadB 49 (zxi49, 2, 3, 4, 49, 0, 0, 0, 0) (yX4_writeStuck, cX4_writeStuck, none, RX4) 0 4106 1007 4105 57 = true := by decide +kernel
theorem zm49 : zOK 49 (zxi49, 2, 3, 4, 49, 0, 0, 0, 0) (yX4_writeStuck, cX4_writeStuck, none, RX4) := zOK_of zh49 zr49 (fun pc h => zguard h)
def zps50 : List (Nat × Nat) := [(4, 1126), (7, 1050), (14, 1142), (25, 4082), (30, 4092), (36, 4082)]
set_option maxRecDepth 100000 in
theorem zr50 : ∀ pc, pc < 46 → zrowB (yX4_writeFree, cX4_writeFree, none, RX4) zps50 pc (zxi50 pc) = true := by decide +kernel
set_option maxRecDepth 100000 in
theorem zh50 : zheadB 50 (zxi50, 2, 3, 4, 50, 0, 0, 0, 0) (yX4_writeFree, cX4_writeFree, none, RX4) 0 4113 1007 4112 58 = true := by decide +kernel
theorem zm50 : zOK 50 (zxi50, 2, 3, 4, 50, 0, 0, 0, 0) (yX4_writeFree, cX4_writeFree, none, RX4) := zOK_of zh50 zr50 (fun pc h => zguard h)
def zps51 : List (Nat × Nat) := [(4, 1147), (11, 1155), (23, 4082), (28, 4092), (33, 1155), (38, 4092), (44, 4082)]
set_option maxRecDepth 100000 in
theorem zr51 : ∀ pc, pc < 54 → zrowB (yX4_writePlaces, cX4_writePlaces, none, RX4) zps51 pc (zxi51 pc) = true := by decide +kernel
set_option maxRecDepth 100000 in
theorem zh51 : zheadB 51 (zxi51, 2, 3, 4, 51, 0, 0, 0, 0) (yX4_writePlaces, cX4_writePlaces, none, RX4) 0 4118 1007 4117 59 = true := by decide +kernel
theorem zm51 : zOK 51 (zxi51, 2, 3, 4, 51, 0, 0, 0, 0) (yX4_writePlaces, cX4_writePlaces, none, RX4) := zOK_of zh51 zr51 (fun pc h => zguard h)
def zps52 : List (Nat × Nat) := [(3, 4082), (10, 4125), (17, 1110), (28, 4082), (33, 1110), (38, 4133), (41, 4092), (53, 4082)]
set_option maxRecDepth 100000 in
theorem zr52 : ∀ pc, pc < 57 → zrowB (yX4_writeWished, cX4_writeWished, none, RX4) zps52 pc (zxi52 pc) = true := by decide +kernel
set_option maxRecDepth 100000 in
theorem zh52 : zheadB 52 (zxi52, 2, 3, 4, 52, 0, 0, 0, 0) (yX4_writeWished, cX4_writeWished, none, RX4) 0 4123 1007 4122 60 = true := by decide +kernel
theorem zm52 : zOK 52 (zxi52, 2, 3, 4, 52, 0, 0, 0, 0) (yX4_writeWished, cX4_writeWished, none, RX4) := zOK_of zh52 zr52 (fun pc h => zguard h)
def zps53 : List (Nat × Nat) := [(4, 4086), (13, 4087), (16, 4088)]
set_option maxRecDepth 100000 in
theorem zr53 : ∀ pc, pc < 26 → zrowB (yX4_writeText, cX4_writeText, none, RX4) zps53 pc (zxi53 pc) = true := by decide +kernel
set_option maxRecDepth 100000 in
theorem zh53 : zheadB 53 (zxi53, 2, 3, 4, 53, 0, 0, 0, 0) (yX4_writeText, cX4_writeText, none, RX4) 0 4085 1007 4084 53 = true := by decide +kernel
theorem zm53 : zOK 53 (zxi53, 2, 3, 4, 53, 0, 0, 0, 0) (yX4_writeText, cX4_writeText, none, RX4) := zOK_of zh53 zr53 (fun pc h => zguard h)
def zps54 : List (Nat × Nat) := [(3, 4088), (20, 4088), (31, 4088)]
set_option maxRecDepth 100000 in
theorem zr54 : ∀ pc, pc < 35 → zrowB (yX4_writeNumber, cX4_writeNumber, none, RX4) zps54 pc (zxi54 pc) = true := by decide +kernel
set_option maxRecDepth 100000 in
theorem zh54 : zheadB 54 (zxi54, 2, 2, 4, 54, 0, 0, 0, 0) (yX4_writeNumber, cX4_writeNumber, none, RX4) 0 4095 1007 4094 55 = true := by decide +kernel
theorem zm54 : zOK 54 (zxi54, 2, 2, 4, 54, 0, 0, 0, 0) (yX4_writeNumber, cX4_writeNumber, none, RX4) := zOK_of zh54 zr54 (fun pc h => zguard h)
def zps55 : List (Nat × Nat) := [(1, 1236), (8, 1235), (18, 1231), (22, 1235), (30, 1235), (35, 1235)]
set_option maxRecDepth 100000 in
theorem zr55 : ∀ pc, pc < 39 → zrowB (yX4_writeByte, cX4_writeByte, none, RX4) zps55 pc (zxi55 pc) = true := by decide +kernel
set_option maxRecDepth 100000 in
theorem zh55 : zheadB 55 (zxi55, 2, 2, 4, 55, 0, 0, 0, 0) (yX4_writeByte, cX4_writeByte, none, RX4) 0 4091 1007 4090 54 = true := by decide +kernel
theorem zm55 : zOK 55 (zxi55, 2, 2, 4, 55, 0, 0, 0, 0) (yX4_writeByte, cX4_writeByte, none, RX4) := zOK_of zh55 zr55 (fun pc h => zguard h)
def zps56 : List (Nat × Nat) := [(1, 1192), (10, 1193), (15, 1196), (20, 1198)]
set_option maxRecDepth 100000 in
theorem zr56 : ∀ pc, pc < 24 → zrowB (yX5_init, cX5_init, none, RX5) zps56 pc (zxi56 pc) = true := by decide +kernel
set_option maxRecDepth 100000 in
theorem zh56 : zheadB 56 (zxi56, 1, 1, 5, 56, 1, 900, 0, 6) (yX5_init, cX5_init, none, RX5) 1 1191 1006 1190 0 = true := by decide +kernel
theorem zm56 : zOK 56 (zxi56, 1, 1, 5, 56, 1, 900, 0, 6) (yX5_init, cX5_init, none, RX5) := zOK_of zh56 zr56 (fun pc h => zguard h)
def zps57 : List (Nat × Nat) := [(8, 1194), (18, 1193), (22, 1194), (32, 1194), (37, 1194)]
set_option maxRecDepth 100000 in
theorem zr57 : ∀ pc, pc < 47 → zrowB (yX5_append, cX5_append, none, RX5) zps57 pc (zxi57 pc) = true := by decide +kernel
set_option maxRecDepth 100000 in
theorem zh57 : zheadB 57 (zxi57, 2, 3, 5, 57, 0, 0, 0, 0) (yX5_append, cX5_append, none, RX5) 0 2235 1006 2234 8 = true := by decide +kernel
theorem zm57 : zOK 57 (zxi57, 2, 3, 5, 57, 0, 0, 0, 0) (yX5_append, cX5_append, none, RX5) := zOK_of zh57 zr57 (fun pc h => zguard h)
def zps58 : List (Nat × Nat) := [(2, 1200), (7, 1202), (12, 1194), (17, 1196), (22, 1198), (27, 3008), (36, 3012), (49, 1203), (57, 3097), (66, 3012)]
set_option maxRecDepth 100000 in
theorem zr58 : ∀ pc, pc < 77 → zrowB (yX5_readAll, cX5_readAll, some .boolean, RX5) zps58 pc (zxi58 pc) = true := by decide +kernel
set_option maxRecDepth 100000 in
theorem zh58 : zheadB 58 (zxi58, 3, 4, 5, 58, 0, 0, 2, 0) (yX5_readAll, cX5_readAll, some .boolean, RX5) 0 3007 1006 3006 10 = true := by decide +kernel
theorem zm58 : zOK 58 (zxi58, 3, 4, 5, 58, 0, 0, 2, 0) (yX5_readAll, cX5_readAll, some .boolean, RX5) := zOK_of zh58 zr58 (fun pc h => zguard h)
def zps59 : List (Nat × Nat) := [(2, 1196), (7, 1201), (10, 1198)]
set_option maxRecDepth 100000 in
theorem zr59 : ∀ pc, pc < 15 → zrowB (yX5_fail, cX5_fail, some .boolean, RX5) zps59 pc (zxi59 pc) = true := by decide +kernel
set_option maxRecDepth 100000 in
theorem zh59 : zheadB 59 (zxi59, 2, 2, 5, 59, 0, 0, 2, 0) (yX5_fail, cX5_fail, some .boolean, RX5) 0 3083 1006 3082 16 = true := by decide +kernel
theorem zm59 : zOK 59 (zxi59, 2, 2, 5, 59, 0, 0, 2, 0) (yX5_fail, cX5_fail, some .boolean, RX5) := zOK_of zh59 zr59 (fun pc h => zguard h)
def zps60 : List (Nat × Nat) := [(1, 3012), (7, 3024), (15, 3076), (18, 3080), (25, 3084), (34, 1204), (41, 3084), (52, 1204), (55, 3092), (59, 3093)]
set_option maxRecDepth 100000 in
theorem zr60 : ∀ pc, pc < 63 → zrowB (yX5_readSize, cX5_readSize, some .boolean, RX5) zps60 pc (zxi60 pc) = true := by decide +kernel
set_option maxRecDepth 100000 in
theorem zh60 : zheadB 60 (zxi60, 2, 3, 5, 60, 0, 0, 2, 0) (yX5_readSize, cX5_readSize, some .boolean, RX5) 0 3011 1006 3010 11 = true := by decide +kernel
theorem zm60 : zOK 60 (zxi60, 2, 3, 5, 60, 0, 0, 2, 0) (yX5_readSize, cX5_readSize, some .boolean, RX5) := zOK_of zh60 zr60 (fun pc h => zguard h)
def zps61 : List (Nat × Nat) := [(3, 3024), (11, 3102), (18, 3024), (26, 3107), (33, 3024), (41, 3120), (48, 3024), (56, 3127), (63, 3024), (71, 3136), (78, 3024), (86, 3141), (94, 3076), (97, 3080)]
set_option maxRecDepth 100000 in
theorem zr61 : ∀ pc, pc < 101 → zrowB (yX5_readLine, cX5_readLine, some .boolean, RX5) zps61 pc (zxi61 pc) = true := by decide +kernel
set_option maxRecDepth 100000 in
theorem zh61 : zheadB 61 (zxi61, 2, 2, 5, 61, 0, 0, 2, 0) (yX5_readLine, cX5_readLine, some .boolean, RX5) 0 3100 1006 3099 20 = true := by decide +kernel
theorem zm61 : zOK 61 (zxi61, 2, 2, 5, 61, 0, 0, 2, 0) (yX5_readLine, cX5_readLine, some .boolean, RX5) := zOK_of zh61 zr61 (fun pc h => zguard h)
def zps62 : List (Nat × Nat) := [(3, 1128), (6, 1053), (11, 3084), (20, 1204), (27, 3084), (36, 1204), (50, 3012), (54, 1203), (62, 1131), (69, 1135), (81, 3088), (91, 1204), (108, 3080)]
set_option maxRecDepth 100000 in
theorem zr62 : ∀ pc, pc < 112 → zrowB (yX5_readSwitch, cX5_readSwitch, some .boolean, RX5) zps62 pc (zxi62 pc) = true := by decide +kernel
set_option maxRecDepth 100000 in
theorem zh62 : zheadB 62 (zxi62, 2, 5, 5, 62, 0, 0, 2, 0) (yX5_readSwitch, cX5_readSwitch, some .boolean, RX5) 0 3105 1006 3104 21 = true := by decide +kernel
theorem zm62 : zOK 62 (zxi62, 2, 5, 5, 62, 0, 0, 2, 0) (yX5_readSwitch, cX5_readSwitch, some .boolean, RX5) := zOK_of zh62 zr62 (fun pc h => zguard h)
def zps63 : List (Nat × Nat) := [(1, 1149), (12, 3080), (19, 1128), (22, 1047), (27, 3084), (37, 1204), (40, 3111), (48, 3080), (54, 1204), (57, 3115), (61, 3093)]
set_option maxRecDepth 100000 in
theorem zr63 : ∀ pc, pc < 65 → zrowB (yX5_readBobbin, cX5_readBobbin, some .boolean, RX5) zps63 pc (zxi63 pc) = true := by decide +kernel
set_option maxRecDepth 100000 in
theorem zh63 : zheadB 63 (zxi63, 2, 2, 5, 63, 0, 0, 2, 0) (yX5_readBobbin, cX5_readBobbin, some .boolean, RX5) 0 3110 1006 3109 22 = true := by decide +kernel
theorem zm63 : zOK 63 (zxi63, 2, 2, 5, 63, 0, 0, 2, 0) (yX5_readBobbin, cX5_readBobbin, some .boolean, RX5) := zOK_of zh63 zr63 (fun pc h => zguard h)
def zps64 : List (Nat × Nat) := [(3, 1128), (6, 1053), (11, 3084), (20, 1204), (25, 3012), (31, 3024), (38, 1140), (50, 3024), (57, 1140), (68, 3076), (71, 3080), (76, 3093)]
set_option maxRecDepth 100000 in
theorem zr64 : ∀ pc, pc < 80 → zrowB (yX5_readStuck, cX5_readStuck, some .boolean, RX5) zps64 pc (zxi64 pc) = true := by decide +kernel
set_option maxRecDepth 100000 in
theorem zh64 : zheadB 64 (zxi64, 2, 3, 5, 64, 0, 0, 2, 0) (yX5_readStuck, cX5_readStuck, some .boolean, RX5) 0 3123 1006 3122 25 = true := by decide +kernel
theorem zm64 : zOK 64 (zxi64, 2, 3, 5, 64, 0, 0, 2, 0) (yX5_readStuck, cX5_readStuck, some .boolean, RX5) := zOK_of zh64 zr64 (fun pc h => zguard h)
def zps65 : List (Nat × Nat) := [(1, 3131), (12, 3080), (19, 1128), (22, 1053), (27, 3084), (36, 1144), (40, 1204), (46, 3093)]
set_option maxRecDepth 100000 in
theorem zr65 : ∀ pc, pc < 50 → zrowB (yX5_readFree, cX5_readFree, some .boolean, RX5) zps65 pc (zxi65 pc) = true := by decide +kernel
set_option maxRecDepth 100000 in
theorem zh65 : zheadB 65 (zxi65, 2, 2, 5, 65, 0, 0, 2, 0) (yX5_readFree, cX5_readFree, some .boolean, RX5) 0 3130 1006 3129 26 = true := by decide +kernel
theorem zm65 : zOK 65 (zxi65, 2, 2, 5, 65, 0, 0, 2, 0) (yX5_readFree, cX5_readFree, some .boolean, RX5) := zOK_of zh65 zr65 (fun pc h => zguard h)
def zps66 : List (Nat × Nat) := [(3, 1149), (8, 3084), (17, 1204), (24, 1128), (27, 1047), (32, 3084), (41, 1157), (46, 1204), (51, 3093)]
set_option maxRecDepth 100000 in
theorem zr66 : ∀ pc, pc < 55 → zrowB (yX5_readPlace, cX5_readPlace, some .boolean, RX5) zps66 pc (zxi66 pc) = true := by decide +kernel
set_option maxRecDepth 100000 in
theorem zh66 : zheadB 66 (zxi66, 2, 3, 5, 66, 0, 0, 2, 0) (yX5_readPlace, cX5_readPlace, some .boolean, RX5) 0 3139 1006 3138 28 = true := by decide +kernel
theorem zm66 : zOK 66 (zxi66, 2, 3, 5, 66, 0, 0, 2, 0) (yX5_readPlace, cX5_readPlace, some .boolean, RX5) := zOK_of zh66 zr66 (fun pc h => zguard h)
def zps67 : List (Nat × Nat) := [(2, 1161), (6, 1165), (10, 1116), (22, 3012), (26, 1203), (36, 1203), (50, 1203), (58, 3012), (65, 3088), (74, 1165), (79, 1204), (83, 3145), (95, 3080)]
set_option maxRecDepth 100000 in
theorem zr67 : ∀ pc, pc < 99 → zrowB (yX5_readWished, cX5_readWished, some .boolean, RX5) zps67 pc (zxi67 pc) = true := by decide +kernel
set_option maxRecDepth 100000 in
theorem zh67 : zheadB 67 (zxi67, 2, 4, 5, 67, 0, 0, 2, 0) (yX5_readWished, cX5_readWished, some .boolean, RX5) 0 3144 1006 3143 29 = true := by decide +kernel
theorem zm67 : zOK 67 (zxi67, 2, 4, 5, 67, 0, 0, 2, 0) (yX5_readWished, cX5_readWished, some .boolean, RX5) := zOK_of zh67 zr67 (fun pc h => zguard h)
def zps68 : List (Nat × Nat) := [(1, 3012), (5, 1203), (14, 3076), (17, 3080)]
set_option maxRecDepth 100000 in
theorem zr68 : ∀ pc, pc < 29 → zrowB (yX5_takeSemicolon, cX5_takeSemicolon, some .boolean, RX5) zps68 pc (zxi68 pc) = true := by decide +kernel
set_option maxRecDepth 100000 in
theorem zh68 : zheadB 68 (zxi68, 1, 1, 5, 68, 0, 0, 2, 0) (yX5_takeSemicolon, cX5_takeSemicolon, some .boolean, RX5) 0 3096 1006 3095 19 = true := by decide +kernel
theorem zm68 : zOK 68 (zxi68, 1, 1, 5, 68, 0, 0, 2, 0) (yX5_takeSemicolon, cX5_takeSemicolon, some .boolean, RX5) := zOK_of zh68 zr68 (fun pc h => zguard h)
def zps69 : List (Nat × Nat) := [(1, 3012), (7, 3088)]
set_option maxRecDepth 100000 in
theorem zr69 : ∀ pc, pc < 11 → zrowB (yX5_takeNumber, cX5_takeNumber, some .boolean, RX5) zps69 pc (zxi69 pc) = true := by decide +kernel
set_option maxRecDepth 100000 in
theorem zh69 : zheadB 69 (zxi69, 3, 3, 5, 69, 0, 0, 2, 0) (yX5_takeNumber, cX5_takeNumber, some .boolean, RX5) 0 3087 1006 3086 17 = true := by decide +kernel
theorem zm69 : zOK 69 (zxi69, 3, 3, 5, 69, 0, 0, 2, 0) (yX5_takeNumber, cX5_takeNumber, some .boolean, RX5) := zOK_of zh69 zr69 (fun pc h => zguard h)
def zps70 : List (Nat × Nat) := [(1, 1203), (10, 3076), (13, 3080), (18, 1204), (26, 1204), (35, 3080)]
set_option maxRecDepth 100000 in
theorem zr70 : ∀ pc, pc < 47 → zrowB (yX5_isNumber, cX5_isNumber, some .boolean, RX5) zps70 pc (zxi70 pc) = true := by decide +kernel
set_option maxRecDepth 100000 in
theorem zh70 : zheadB 70 (zxi70, 3, 3, 5, 70, 0, 0, 2, 0) (yX5_isNumber, cX5_isNumber, some .boolean, RX5) 0 3091 1006 3090 18 = true := by decide +kernel
theorem zm70 : zOK 70 (zxi70, 3, 3, 5, 70, 0, 0, 2, 0) (yX5_isNumber, cX5_isNumber, some .boolean, RX5) := zOK_of zh70 zr70 (fun pc h => zguard h)
def zps71 : List (Nat × Nat) := [(1, 1203)]
set_option maxRecDepth 100000 in
theorem zr71 : ∀ pc, pc < 14 → zrowB (yX5_misfit, cX5_misfit, some .int, RX5) zps71 pc (zxi71 pc) = true := by decide +kernel
set_option maxRecDepth 100000 in
theorem zh71 : zheadB 71 (zxi71, 1, 1, 5, 71, 0, 0, 1, 0) (yX5_misfit, cX5_misfit, some .int, RX5) 0 3079 1006 3078 15 = true := by decide +kernel
theorem zm71 : zOK 71 (zxi71, 1, 1, 5, 71, 0, 0, 1, 0) (yX5_misfit, cX5_misfit, some .int, RX5) := zOK_of zh71 zr71 (fun pc h => zguard h)
def zps72 : List (Nat × Nat) := [(1, 1203), (9, 1202), (13, 1201), (18, 3028), (30, 3028), (37, 1193), (41, 1201), (49, 3038)]
set_option maxRecDepth 100000 in
theorem zr72 : ∀ pc, pc < 65 → zrowB (yX5_isWord, cX5_isWord, some .boolean, RX5) zps72 pc (zxi72 pc) = true := by decide +kernel
set_option maxRecDepth 100000 in
theorem zh72 : zheadB 72 (zxi72, 2, 3, 5, 72, 0, 0, 2, 0) (yX5_isWord, cX5_isWord, some .boolean, RX5) 0 3027 1006 3026 14 = true := by decide +kernel
theorem zm72 : zOK 72 (zxi72, 2, 3, 5, 72, 0, 0, 2, 0) (yX5_isWord, cX5_isWord, some .boolean, RX5) := zOK_of zh72 zr72 (fun pc h => zguard h)
def zps73 : List (Nat × Nat) := [(1, 1202), (5, 1200), (12, 1193), (16, 1202), (26, 1193), (30, 1202), (41, 1202), (46, 1202), (54, 1202), (57, 1201), (61, 1202), (65, 1200), (73, 1203), (79, 1193), (83, 1202), (87, 3016), (90, 1203), (95, 1202), (100, 1202), (104, 1203), (112, 1203), (121, 1202), (125, 1200), (132, 1193), (136, 1202), (140, 3016), (144, 1203), (152, 1202), (157, 1202), (164, 1203), (172, 3019)]
set_option maxRecDepth 100000 in
theorem zr73 : ∀ pc, pc < 176 → zrowB (yX5_advance, cX5_advance, none, RX5) zps73 pc (zxi73 pc) = true := by decide +kernel
set_option maxRecDepth 100000 in
theorem zh73 : zheadB 73 (zxi73, 1, 1, 5, 73, 0, 0, 0, 0) (yX5_advance, cX5_advance, none, RX5) 0 3015 1006 3014 12 = true := by decide +kernel
theorem zm73 : zOK 73 (zxi73, 1, 1, 5, 73, 0, 0, 0, 0) (yX5_advance, cX5_advance, none, RX5) := zOK_of zh73 zr73 (fun pc h => zguard h)
def zps74 : List (Nat × Nat) := [(1, 1202), (5, 1201), (15, 1203), (21, 1204), (25, 1201), (31, 1202), (41, 1204), (46, 1193), (55, 1204)]
set_option maxRecDepth 100000 in
theorem zr74 : ∀ pc, pc < 65 → zrowB (yX5_weighNumber, cX5_weighNumber, none, RX5) zps74 pc (zxi74 pc) = true := by decide +kernel
set_option maxRecDepth 100000 in
theorem zh74 : zheadB 74 (zxi74, 1, 2, 5, 74, 0, 0, 0, 0) (yX5_weighNumber, cX5_weighNumber, none, RX5) 0 3022 1006 3021 13 = true := by decide +kernel
theorem zm74 : zOK 74 (zxi74, 1, 2, 5, 74, 0, 0, 0, 0) (yX5_weighNumber, cX5_weighNumber, none, RX5) := zOK_of zh74 zr74 (fun pc h => zguard h)
def zps75 : List (Nat × Nat) := []
set_option maxRecDepth 100000 in
theorem zr75 : ∀ pc, pc < 48 → zrowB (yX5_kindOf, cX5_kindOf, some .int, RX5) zps75 pc (zxi75 pc) = true := by decide +kernel
set_option maxRecDepth 100000 in
theorem zh75 : zheadB 75 (zxi75, 1, 1, 5, 75, 0, 0, 1, 0) (yX5_kindOf, cX5_kindOf, some .int, RX5) 2 3018 1006 3017 0 = true := by decide +kernel
theorem zm75 : zOK 75 (zxi75, 1, 1, 5, 75, 0, 0, 1, 0) (yX5_kindOf, cX5_kindOf, some .int, RX5) := zOK_of zh75 zr75 (fun pc h => zguard h)
def zps76 : List (Nat × Nat) := [(1, 2062), (9, 2064), (17, 2066), (25, 2068), (33, 2070), (41, 2071), (50, 2072)]
set_option maxRecDepth 100000 in
theorem zr76 : ∀ pc, pc < 54 → zrowB (yX6_init, cX6_init, none, RX6) zps76 pc (zxi76 pc) = true := by decide +kernel
set_option maxRecDepth 100000 in
theorem zh76 : zheadB 76 (zxi76, 1, 1, 6, 76, 6, 560, 0, 7) (yX6_init, cX6_init, none, RX6) 1 2061 1009 2060 0 = true := by decide +kernel
theorem zm76 : zOK 76 (zxi76, 1, 1, 6, 76, 6, 560, 0, 7) (yX6_init, cX6_init, none, RX6) := zOK_of zh76 zr76 (fun pc h => zguard h)
def zps77 : List (Nat × Nat) := [(2, 1044), (5, 2063), (14, 2063), (42, 4161), (46, 4162), (58, 2064), (67, 2068), (86, 2063), (93, 2068), (105, 4163)]
set_option maxRecDepth 100000 in
theorem zr77 : ∀ pc, pc < 115 → zrowB (yX6_lay, cX6_lay, none, RX6) zps77 pc (zxi77 pc) = true := by decide +kernel
set_option maxRecDepth 100000 in
theorem zh77 : zheadB 77 (zxi77, 5, 8, 6, 77, 0, 0, 0, 0) (yX6_lay, cX6_lay, none, RX6) 0 4160 1009 4159 64 = true := by decide +kernel
theorem zm77 : zOK 77 (zxi77, 5, 8, 6, 77, 0, 0, 0, 0) (yX6_lay, cX6_lay, none, RX6) := zOK_of zh77 zr77 (fun pc h => zguard h)
def zps78 : List (Nat × Nat) := [(3, 2064), (15, 2063), (30, 2064), (52, 2068), (59, 2066), (66, 2064)]
set_option maxRecDepth 100000 in
theorem zr78 : ∀ pc, pc < 79 → zrowB (yX6_markTrack, cX6_markTrack, none, RX6) zps78 pc (zxi78 pc) = true := by decide +kernel
set_option maxRecDepth 100000 in
theorem zh78 : zheadB 78 (zxi78, 2, 5, 6, 78, 0, 0, 0, 0) (yX6_markTrack, cX6_markTrack, none, RX6) 0 4166 1009 4165 65 = true := by decide +kernel
theorem zm78 : zOK 78 (zxi78, 2, 5, 6, 78, 0, 0, 0, 0) (yX6_markTrack, cX6_markTrack, none, RX6) := zOK_of zh78 zr78 (fun pc h => zguard h)
def zps79 : List (Nat × Nat) := [(6, 2063), (13, 2066), (27, 2068)]
set_option maxRecDepth 100000 in
theorem zr79 : ∀ pc, pc < 47 → zrowB (yX6_countTracks, cX6_countTracks, some .int, RX6) zps79 pc (zxi79 pc) = true := by decide +kernel
set_option maxRecDepth 100000 in
theorem zh79 : zheadB 79 (zxi79, 2, 4, 6, 79, 0, 0, 1, 0) (yX6_countTracks, cX6_countTracks, some .int, RX6) 0 4186 1009 4185 67 = true := by decide +kernel
theorem zm79 : zOK 79 (zxi79, 2, 4, 6, 79, 0, 0, 1, 0) (yX6_countTracks, cX6_countTracks, some .int, RX6) := zOK_of zh79 zr79 (fun pc h => zguard h)
def zps80 : List (Nat × Nat) := [(6, 2063), (14, 2068), (19, 4191)]
set_option maxRecDepth 100000 in
theorem zr80 : ∀ pc, pc < 31 → zrowB (yX6_greatestLength, cX6_greatestLength, some .int, RX6) zps80 pc (zxi80 pc) = true := by decide +kernel
set_option maxRecDepth 100000 in
theorem zh80 : zheadB 80 (zxi80, 1, 3, 6, 80, 0, 0, 1, 0) (yX6_greatestLength, cX6_greatestLength, some .int, RX6) 0 4190 1009 4189 68 = true := by decide +kernel
theorem zm80 : zOK 80 (zxi80, 1, 3, 6, 80, 0, 0, 1, 0) (yX6_greatestLength, cX6_greatestLength, some .int, RX6) := zOK_of zh80 zr80 (fun pc h => zguard h)
def zps81 : List (Nat × Nat) := [(6, 2063), (14, 2068), (20, 4196)]
set_option maxRecDepth 100000 in
theorem zr81 : ∀ pc, pc < 32 → zrowB (yX6_allHome, cX6_allHome, some .long, RX6) zps81 pc (zxi81 pc) = true := by decide +kernel
set_option maxRecDepth 100000 in
theorem zh81 : zheadB 81 (zxi81, 1, 4, 6, 81, 0, 0, 3, 0) (yX6_allHome, cX6_allHome, some .long, RX6) 0 4195 1009 4194 69 = true := by decide +kernel
theorem zm81 : zOK 81 (zxi81, 1, 4, 6, 81, 0, 0, 3, 0) (yX6_allHome, cX6_allHome, some .long, RX6) := zOK_of zh81 zr81 (fun pc h => zguard h)
def zps82 : List (Nat × Nat) := [(6, 2072), (14, 2072), (33, 2063), (40, 2070), (70, 2063), (77, 2071), (81, 1057), (85, 2070), (107, 1054), (115, 2071), (119, 1070), (127, 2071), (131, 1073), (138, 4209), (153, 2063), (160, 2070), (167, 2070), (178, 4161), (182, 4162)]
set_option maxRecDepth 100000 in
theorem zr82 : ∀ pc, pc < 199 → zrowB (yX6_findFoes, cX6_findFoes, none, RX6) zps82 pc (zxi82 pc) = true := by decide +kernel
set_option maxRecDepth 100000 in
theorem zh82 : zheadB 82 (zxi82, 5, 7, 6, 82, 0, 0, 0, 0) (yX6_findFoes, cX6_findFoes, none, RX6) 0 4208 1009 4207 70 = true := by decide +kernel
theorem zm82 : zOK 82 (zxi82, 5, 7, 6, 82, 0, 0, 0, 0) (yX6_findFoes, cX6_findFoes, none, RX6) := zOK_of zh82 zr82 (fun pc h => zguard h)
def zps83 : List (Nat × Nat) := [(20, 4213), (27, 2072), (51, 2072), (74, 2064), (81, 2064)]
set_option maxRecDepth 100000 in
theorem zr83 : ∀ pc, pc < 96 → zrowB (yX6_markFoes, cX6_markFoes, none, RX6) zps83 pc (zxi83 pc) = true := by decide +kernel
set_option maxRecDepth 100000 in
theorem zh83 : zheadB 83 (zxi83, 3, 6, 6, 83, 0, 0, 0, 0) (yX6_markFoes, cX6_markFoes, none, RX6) 0 4212 1009 4211 71 = true := by decide +kernel
theorem zm83 : zOK 83 (zxi83, 3, 6, 6, 83, 0, 0, 0, 0) (yX6_markFoes, cX6_markFoes, none, RX6) := zOK_of zh83 zr83 (fun pc h => zguard h)
def zps84 : List (Nat × Nat) := [(1, 2072)]
set_option maxRecDepth 100000 in
theorem zr84 : ∀ pc, pc < 31 → zrowB (yX6_areFoes, cX6_areFoes, some .boolean, RX6) zps84 pc (zxi84 pc) = true := by decide +kernel
set_option maxRecDepth 100000 in
theorem zh84 : zheadB 84 (zxi84, 3, 3, 6, 84, 0, 0, 2, 0) (yX6_areFoes, cX6_areFoes, some .boolean, RX6) 0 4216 1009 4215 72 = true := by decide +kernel
theorem zm84 : zOK 84 (zxi84, 3, 3, 6, 84, 0, 0, 2, 0) (yX6_areFoes, cX6_areFoes, some .boolean, RX6) := zOK_of zh84 zr84 (fun pc h => zguard h)
def zps85 : List (Nat × Nat) := [(1, 2011), (9, 2020), (17, 2023), (25, 2024), (33, 2025), (41, 2026), (45, 2012), (52, 2013), (55, 2029)]
set_option maxRecDepth 100000 in
theorem zr85 : ∀ pc, pc < 59 → zrowB (yX7_init, cX7_init, none, RX7) zps85 pc (zxi85 pc) = true := by decide +kernel
set_option maxRecDepth 100000 in
theorem zh85 : zheadB 85 (zxi85, 1, 1, 7, 85, 7, 362, 0, 8) (yX7_init, cX7_init, none, RX7) 1 2010 1008 2009 0 = true := by decide +kernel
theorem zm85 : zOK 85 (zxi85, 1, 1, 7, 85, 7, 362, 0, 8) (yX7_init, cX7_init, none, RX7) := zOK_of zh85 zr85 (fun pc h => zguard h)
def zps86 : List (Nat × Nat) := [(2, 1145), (5, 2014), (10, 2016), (14, 2029), (18, 1113), (25, 2014), (32, 2020), (37, 1151), (45, 1125), (49, 2176)]
set_option maxRecDepth 100000 in
theorem zr86 : ∀ pc, pc < 59 → zrowB (yX7_begin, cX7_begin, none, RX7) zps86 pc (zxi86 pc) = true := by decide +kernel
set_option maxRecDepth 100000 in
theorem zh86 : zheadB 86 (zxi86, 2, 3, 7, 86, 0, 0, 0, 0) (yX7_begin, cX7_begin, none, RX7) 0 2175 1008 2174 5 = true := by decide +kernel
theorem zm86 : zOK 86 (zxi86, 2, 3, 7, 86, 0, 0, 0, 0) (yX7_begin, cX7_begin, none, RX7) := zOK_of zh86 zr86 (fun pc h => zguard h)
def zps87 : List (Nat × Nat) := [(8, 2020), (12, 2024), (20, 2180), (25, 2020), (30, 2180), (37, 2024), (42, 2024), (57, 2024)]
set_option maxRecDepth 100000 in
theorem zr87 : ∀ pc, pc < 64 → zrowB (yX7_enterLine, cX7_enterLine, none, RX7) zps87 pc (zxi87 pc) = true := by decide +kernel
set_option maxRecDepth 100000 in
theorem zh87 : zheadB 87 (zxi87, 3, 4, 7, 87, 0, 0, 0, 0) (yX7_enterLine, cX7_enterLine, none, RX7) 0 2179 1008 2178 6 = true := by decide +kernel
theorem zm87 : zOK 87 (zxi87, 3, 4, 7, 87, 0, 0, 0, 0) (yX7_enterLine, cX7_enterLine, none, RX7) := zOK_of zh87 zr87 (fun pc h => zguard h)
def zps88 : List (Nat × Nat) := [(2, 2014), (5, 2014), (10, 2016), (13, 2016), (20, 2014), (27, 2020), (32, 2020)]
set_option maxRecDepth 100000 in
theorem zr88 : ∀ pc, pc < 45 → zrowB (yX7_copyPlaces, cX7_copyPlaces, none, RX7) zps88 pc (zxi88 pc) = true := by decide +kernel
set_option maxRecDepth 100000 in
theorem zh88 : zheadB 88 (zxi88, 2, 3, 7, 88, 0, 0, 0, 0) (yX7_copyPlaces, cX7_copyPlaces, none, RX7) 0 5000 1008 4239 76 = true := by decide +kernel
theorem zm88 : zOK 88 (zxi88, 2, 3, 7, 88, 0, 0, 0, 0) (yX7_copyPlaces, cX7_copyPlaces, none, RX7) := zOK_of zh88 zr88 (fun pc h => zguard h)
def zps89 : List (Nat × Nat) := [(4, 2014), (11, 2020)]
set_option maxRecDepth 100000 in
theorem zr89 : ∀ pc, pc < 30 → zrowB (yX7_bobbinIn, cX7_bobbinIn, some .int, RX7) zps89 pc (zxi89 pc) = true := by decide +kernel
set_option maxRecDepth 100000 in
theorem zh89 : zheadB 89 (zxi89, 2, 3, 7, 89, 0, 0, 1, 0) (yX7_bobbinIn, cX7_bobbinIn, some .int, RX7) 0 3219 1008 3218 40 = true := by decide +kernel
theorem zm89 : zOK 89 (zxi89, 2, 3, 7, 89, 0, 0, 1, 0) (yX7_bobbinIn, cX7_bobbinIn, some .int, RX7) := zOK_of zh89 zr89 (fun pc h => zguard h)
def zps90 : List (Nat × Nat) := [(4, 2014), (11, 2024)]
set_option maxRecDepth 100000 in
theorem zr90 : ∀ pc, pc < 30 → zrowB (yX7_standOf, cX7_standOf, some .int, RX7) zps90 pc (zxi90 pc) = true := by decide +kernel
set_option maxRecDepth 100000 in
theorem zh90 : zheadB 90 (zxi90, 2, 3, 7, 90, 0, 0, 1, 0) (yX7_standOf, cX7_standOf, some .int, RX7) 0 3207 1008 3206 38 = true := by decide +kernel
theorem zm90 : zOK 90 (zxi90, 2, 3, 7, 90, 0, 0, 1, 0) (yX7_standOf, cX7_standOf, some .int, RX7) := zOK_of zh90 zr90 (fun pc h => zguard h)
def zps91 : List (Nat × Nat) := [(2, 2032), (7, 2033), (14, 2014), (21, 1056), (25, 2020), (34, 1063), (56, 2033), (60, 2032), (67, 2033), (72, 2032), (78, 2032), (89, 1060), (98, 2023), (112, 2033)]
set_option maxRecDepth 100000 in
theorem zr91 : ∀ pc, pc < 124 → zrowB (yX7_turnAll, cX7_turnAll, some .boolean, RX7) zps91 pc (zxi91 pc) = true := by decide +kernel
set_option maxRecDepth 100000 in
theorem zh91 : zheadB 91 (zxi91, 3, 7, 7, 91, 0, 0, 2, 0) (yX7_turnAll, cX7_turnAll, some .boolean, RX7) 0 4038 1008 4037 45 = true := by decide +kernel
theorem zm91 : zOK 91 (zxi91, 3, 7, 7, 91, 0, 0, 2, 0) (yX7_turnAll, cX7_turnAll, some .boolean, RX7) := zOK_of zh91 zr91 (fun pc h => zguard h)
def zps92 : List (Nat × Nat) := [(9, 2033)]
set_option maxRecDepth 100000 in
theorem zr92 : ∀ pc, pc < 30 → zrowB (yX7_leastClash, cX7_leastClash, some .int, RX7) zps92 pc (zxi92 pc) = true := by decide +kernel
set_option maxRecDepth 100000 in
theorem zh92 : zheadB 92 (zxi92, 1, 2, 7, 92, 0, 0, 1, 0) (yX7_leastClash, cX7_leastClash, some .int, RX7) 0 4228 1008 4227 74 = true := by decide +kernel
theorem zm92 : zOK 92 (zxi92, 1, 2, 7, 92, 0, 0, 1, 0) (yX7_leastClash, cX7_leastClash, some .int, RX7) := zOK_of zh92 zr92 (fun pc h => zguard h)
def zps93 : List (Nat × Nat) := [(2, 2027), (9, 2014), (16, 2025), (21, 2024), (47, 2014), (55, 2023), (59, 2025), (65, 2180), (70, 2023), (74, 2025), (82, 2180), (91, 4043), (98, 4051)]
set_option maxRecDepth 100000 in
theorem zr93 : ∀ pc, pc < 115 → zrowB (yX7_weave, cX7_weave, none, RX7) zps93 pc (zxi93 pc) = true := by decide +kernel
set_option maxRecDepth 100000 in
theorem zh93 : zheadB 93 (zxi93, 2, 4, 7, 93, 0, 0, 0, 0) (yX7_weave, cX7_weave, none, RX7) 0 4042 1008 4041 46 = true := by decide +kernel
theorem zm93 : zOK 93 (zxi93, 2, 4, 7, 93, 0, 0, 0, 0) (yX7_weave, cX7_weave, none, RX7) := zOK_of zh93 zr93 (fun pc h => zguard h)
def zps94 : List (Nat × Nat) := [(1, 2025), (8, 2025), (18, 2027), (22, 2026), (30, 2026), (34, 2027), (42, 4047), (61, 2027), (66, 2027), (70, 2025), (78, 2025)]
set_option maxRecDepth 100000 in
theorem zr94 : ∀ pc, pc < 87 → zrowB (yX7_exchange, cX7_exchange, none, RX7) zps94 pc (zxi94 pc) = true := by decide +kernel
set_option maxRecDepth 100000 in
theorem zh94 : zheadB 94 (zxi94, 3, 5, 7, 94, 0, 0, 0, 0) (yX7_exchange, cX7_exchange, none, RX7) 0 4046 1008 4045 47 = true := by decide +kernel
theorem zm94 : zOK 94 (zxi94, 3, 5, 7, 94, 0, 0, 0, 0) (yX7_exchange, cX7_exchange, none, RX7) := zOK_of zh94 zr94 (fun pc h => zguard h)
def zps95 : List (Nat × Nat) := [(1, 1068), (5, 2020), (12, 1068), (16, 2023), (26, 1068), (30, 2020), (37, 1068), (41, 2023)]
set_option maxRecDepth 100000 in
theorem zr95 : ∀ pc, pc < 75 → zrowB (yX7_isInFront, cX7_isInFront, some .boolean, RX7) zps95 pc (zxi95 pc) = true := by decide +kernel
set_option maxRecDepth 100000 in
theorem zh95 : zheadB 95 (zxi95, 4, 6, 7, 95, 0, 0, 2, 0) (yX7_isInFront, cX7_isInFront, some .boolean, RX7) 0 4050 1008 4049 48 = true := by decide +kernel
theorem zm95 : zOK 95 (zxi95, 4, 6, 7, 95, 0, 0, 2, 0) (yX7_isInFront, cX7_isInFront, some .boolean, RX7) := zOK_of zh95 zr95 (fun pc h => zguard h)
def zps96 : List (Nat × Nat) := [(4, 2014), (11, 2020), (16, 2023), (30, 2016), (35, 2016)]
set_option maxRecDepth 100000 in
theorem zr96 : ∀ pc, pc < 39 → zrowB (yX7_settle, cX7_settle, none, RX7) zps96 pc (zxi96 pc) = true := by decide +kernel
set_option maxRecDepth 100000 in
theorem zh96 : zheadB 96 (zxi96, 1, 2, 7, 96, 0, 0, 0, 0) (yX7_settle, cX7_settle, none, RX7) 0 4055 1008 4054 49 = true := by decide +kernel
theorem zm96 : zOK 96 (zxi96, 1, 2, 7, 96, 0, 0, 0, 0) (yX7_settle, cX7_settle, none, RX7) := zOK_of zh96 zr96 (fun pc h => zguard h)
def zps97 : List (Nat × Nat) := [(4, 2014), (11, 2024), (16, 2025), (32, 2027), (39, 2029), (43, 2026), (48, 4060)]
set_option maxRecDepth 100000 in
theorem zr97 : ∀ pc, pc < 58 → zrowB (yX7_keepWoven, cX7_keepWoven, none, RX7) zps97 pc (zxi97 pc) = true := by decide +kernel
set_option maxRecDepth 100000 in
theorem zh97 : zheadB 97 (zxi97, 1, 2, 7, 97, 0, 0, 0, 0) (yX7_keepWoven, cX7_keepWoven, none, RX7) 0 4059 1008 4058 50 = true := by decide +kernel
theorem zm97 : zOK 97 (zxi97, 1, 2, 7, 97, 0, 0, 0, 0) (yX7_keepWoven, cX7_keepWoven, none, RX7) := zOK_of zh97 zr97 (fun pc h => zguard h)
def zps98 : List (Nat × Nat) := [(13, 2016), (16, 4222), (28, 4223), (38, 5204), (42, 4224), (46, 5205)]
set_option maxRecDepth 100000 in
theorem zr98 : ∀ pc, pc < 57 → zrowB (yX7_runAll, cX7_runAll, some .boolean, RX7) zps98 pc (zxi98 pc) = true := by decide +kernel
set_option maxRecDepth 100000 in
theorem zh98 : zheadB 98 (zxi98, 6, 7, 7, 98, 0, 0, 2, 0) (yX7_runAll, cX7_runAll, some .boolean, RX7) 0 5203 1008 5202 113 = true := by decide +kernel
theorem zm98 : zOK 98 (zxi98, 6, 7, 7, 98, 0, 0, 2, 0) (yX7_runAll, cX7_runAll, some .boolean, RX7) := zOK_of zh98 zr98 (fun pc h => zguard h)
def zps99 : List (Nat × Nat) := [(13, 2016), (16, 4222), (20, 4223), (28, 4224)]
set_option maxRecDepth 100000 in
theorem zr99 : ∀ pc, pc < 38 → zrowB (yX7_chase, cX7_chase, none, RX7) zps99 pc (zxi99 pc) = true := by decide +kernel
set_option maxRecDepth 100000 in
theorem zh99 : zheadB 99 (zxi99, 3, 4, 7, 99, 0, 0, 0, 0) (yX7_chase, cX7_chase, none, RX7) 0 4221 1008 4220 73 = true := by decide +kernel
theorem zm99 : zOK 99 (zxi99, 3, 4, 7, 99, 0, 0, 0, 0) (yX7_chase, cX7_chase, none, RX7) := zOK_of zh99 zr99 (fun pc h => zguard h)
def zps100 : List (Nat × Nat) := [(6, 2014), (13, 1063), (17, 1056), (21, 2020)]
set_option maxRecDepth 100000 in
theorem zr100 : ∀ pc, pc < 44 → zrowB (yX7_firstTurnedTo, cX7_firstTurnedTo, some .int, RX7) zps100 pc (zxi100 pc) = true := by decide +kernel
set_option maxRecDepth 100000 in
theorem zh100 : zheadB 100 (zxi100, 4, 5, 7, 100, 0, 0, 1, 0) (yX7_firstTurnedTo, cX7_firstTurnedTo, some .int, RX7) 0 5004 1008 5003 77 = true := by decide +kernel
theorem zm100 : zOK 100 (zxi100, 4, 5, 7, 100, 0, 0, 1, 0) (yX7_firstTurnedTo, cX7_firstTurnedTo, some .int, RX7) := zOK_of zh100 zr100 (fun pc h => zguard h)
def zps101 : List (Nat × Nat) := [(1, 2110), (9, 2113), (17, 2114), (25, 2115)]
set_option maxRecDepth 100000 in
theorem zr101 : ∀ pc, pc < 29 → zrowB (yX8_init, cX8_init, none, RX8) zps101 pc (zxi101 pc) = true := by decide +kernel
set_option maxRecDepth 100000 in
theorem zh101 : zheadB 101 (zxi101, 1, 1, 8, 101, 3, 36, 0, 9) (yX8_init, cX8_init, none, RX8) 1 2109 1011 2108 0 = true := by decide +kernel
theorem zm101 : zOK 101 (zxi101, 1, 1, 8, 101, 3, 36, 0, 9) (yX8_init, cX8_init, none, RX8) := zOK_of zh101 zr101 (fun pc h => zguard h)
def zps102 : List (Nat × Nat) := [(1, 2113), (5, 2111), (11, 2114), (15, 2111), (21, 2115), (25, 2111), (32, 2111), (37, 2111)]
set_option maxRecDepth 100000 in
theorem zr102 : ∀ pc, pc < 41 → zrowB (yX8_add, cX8_add, none, RX8) zps102 pc (zxi102 pc) = true := by decide +kernel
set_option maxRecDepth 100000 in
theorem zh102 : zheadB 102 (zxi102, 4, 4, 8, 102, 0, 0, 0, 0) (yX8_add, cX8_add, none, RX8) 0 5229 1011 5228 116 = true := by decide +kernel
theorem zm102 : zOK 102 (zxi102, 4, 4, 8, 102, 0, 0, 0, 0) (yX8_add, cX8_add, none, RX8) := zOK_of zh102 zr102 (fun pc h => zguard h)
def zps103 : List (Nat × Nat) := [(6, 2111), (13, 2113), (23, 2113), (28, 2113), (38, 2113), (49, 2113), (56, 2114), (61, 2114), (68, 2115), (73, 2115), (90, 2111)]
set_option maxRecDepth 100000 in
theorem zr103 : ∀ pc, pc < 94 → zrowB (yX8_drop, cX8_drop, none, RX8) zps103 pc (zxi103 pc) = true := by decide +kernel
set_option maxRecDepth 100000 in
theorem zh103 : zheadB 103 (zxi103, 2, 4, 8, 103, 0, 0, 0, 0) (yX8_drop, cX8_drop, none, RX8) 0 4013 1011 4012 42 = true := by decide +kernel
theorem zm103 : zOK 103 (zxi103, 2, 4, 8, 103, 0, 0, 0, 0) (yX8_drop, cX8_drop, none, RX8) := zOK_of zh103 zr103 (fun pc h => zguard h)
def zps104 : List (Nat × Nat) := [(6, 2111), (14, 2114), (19, 6020)]
set_option maxRecDepth 100000 in
theorem zr104 : ∀ pc, pc < 31 → zrowB (yX8_latest, cX8_latest, some .int, RX8) zps104 pc (zxi104 pc) = true := by decide +kernel
set_option maxRecDepth 100000 in
theorem zh104 : zheadB 104 (zxi104, 1, 3, 8, 104, 0, 0, 1, 0) (yX8_latest, cX8_latest, some .int, RX8) 0 6019 1011 6018 120 = true := by decide +kernel
theorem zm104 : zOK 104 (zxi104, 1, 3, 8, 104, 0, 0, 1, 0) (yX8_latest, cX8_latest, some .int, RX8) := zOK_of zh104 zr104 (fun pc h => zguard h)
def zps105 : List (Nat × Nat) := [(4, 2111), (11, 2114), (17, 2017), (24, 2021), (28, 2113), (35, 2115)]
set_option maxRecDepth 100000 in
theorem zr105 : ∀ pc, pc < 53 → zrowB (yX8_agree, cX8_agree, some .boolean, RX8) zps105 pc (zxi105 pc) = true := by decide +kernel
set_option maxRecDepth 100000 in
theorem zh105 : zheadB 105 (zxi105, 2, 3, 8, 105, 0, 0, 2, 0) (yX8_agree, cX8_agree, some .boolean, RX8) 0 6026 1011 6025 121 = true := by decide +kernel
theorem zm105 : zOK 105 (zxi105, 2, 3, 8, 105, 0, 0, 2, 0) (yX8_agree, cX8_agree, some .boolean, RX8) := zOK_of zh105 zr105 (fun pc h => zguard h)
def zps106 : List (Nat × Nat) := [(1, 1104), (7, 1105), (12, 1108)]
set_option maxRecDepth 100000 in
theorem zr106 : ∀ pc, pc < 16 → zrowB (yX9_init, cX9_init, none, RX9) zps106 pc (zxi106 pc) = true := by decide +kernel
set_option maxRecDepth 100000 in
theorem zh106 : zheadB 106 (zxi106, 2, 2, 9, 106, 1, 300, 0, 10) (yX9_init, cX9_init, none, RX9) 1 1103 1004 1102 0 = true := by decide +kernel
theorem zm106 : zOK 106 (zxi106, 2, 2, 9, 106, 1, 300, 0, 10) (yX9_init, cX9_init, none, RX9) := zOK_of zh106 zr106 (fun pc h => zguard h)
def zps107 : List (Nat × Nat) := [(1, 1112), (5, 1108), (13, 1108), (17, 1112), (24, 1112), (29, 1112)]
set_option maxRecDepth 100000 in
theorem zr107 : ∀ pc, pc < 33 → zrowB (yX9_add, cX9_add, none, RX9) zps107 pc (zxi107 pc) = true := by decide +kernel
set_option maxRecDepth 100000 in
theorem zh107 : zheadB 107 (zxi107, 2, 2, 9, 107, 0, 0, 0, 0) (yX9_add, cX9_add, none, RX9) 0 3148 1004 3147 30 = true := by decide +kernel
theorem zm107 : zOK 107 (zxi107, 2, 2, 9, 107, 0, 0, 0, 0) (yX9_add, cX9_add, none, RX9) := zOK_of zh107 zr107 (fun pc h => zguard h)
def zps108 : List (Nat × Nat) := [(1, 1112), (5, 1108), (9, 4129)]
set_option maxRecDepth 100000 in
theorem zr108 : ∀ pc, pc < 13 → zrowB (yX9_kept, cX9_kept, some .int, RX9) zps108 pc (zxi108 pc) = true := by decide +kernel
set_option maxRecDepth 100000 in
theorem zh108 : zheadB 108 (zxi108, 1, 1, 9, 108, 0, 0, 1, 0) (yX9_kept, cX9_kept, some .int, RX9) 0 4128 1004 4127 61 = true := by decide +kernel
theorem zm108 : zOK 108 (zxi108, 1, 1, 9, 108, 0, 0, 1, 0) (yX9_kept, cX9_kept, some .int, RX9) := zOK_of zh108 zr108 (fun pc h => zguard h)
def zps109 : List (Nat × Nat) := [(4, 5043), (11, 1108), (16, 5055)]
set_option maxRecDepth 100000 in
theorem zr109 : ∀ pc, pc < 33 → zrowB (yX9_fits, cX9_fits, some .boolean, RX9) zps109 pc (zxi109 pc) = true := by decide +kernel
set_option maxRecDepth 100000 in
theorem zh109 : zheadB 109 (zxi109, 2, 3, 9, 109, 0, 0, 2, 0) (yX9_fits, cX9_fits, some .boolean, RX9) 0 5122 1004 5121 98 = true := by decide +kernel
theorem zm109 : zOK 109 (zxi109, 2, 3, 9, 109, 0, 0, 2, 0) (yX9_fits, cX9_fits, some .boolean, RX9) := zOK_of zh109 zr109 (fun pc h => zguard h)
def zps110 : List (Nat × Nat) := [(6, 5043), (14, 1108)]
set_option maxRecDepth 100000 in
theorem zr110 : ∀ pc, pc < 37 → zrowB (yX9_balance, cX9_balance, some .int, RX9) zps110 pc (zxi110 pc) = true := by decide +kernel
set_option maxRecDepth 100000 in
theorem zh110 : zheadB 110 (zxi110, 1, 3, 9, 110, 0, 0, 1, 0) (yX9_balance, cX9_balance, some .int, RX9) 0 5042 1004 5041 81 = true := by decide +kernel
theorem zm110 : zOK 110 (zxi110, 1, 3, 9, 110, 0, 0, 1, 0) (yX9_balance, cX9_balance, some .int, RX9) := zOK_of zh110 zr110 (fun pc h => zguard h)
def zps111 : List (Nat × Nat) := [(1, 5055)]
set_option maxRecDepth 100000 in
theorem zr111 : ∀ pc, pc < 27 → zrowB (yX9_passed, cX9_passed, some .int, RX9) zps111 pc (zxi111 pc) = true := by decide +kernel
set_option maxRecDepth 100000 in
theorem zh111 : zheadB 111 (zxi111, 2, 3, 9, 111, 0, 0, 1, 0) (yX9_passed, cX9_passed, some .int, RX9) 2 5054 1004 5053 0 = true := by decide +kernel
theorem zm111 : zOK 111 (zxi111, 2, 3, 9, 111, 0, 0, 1, 0) (yX9_passed, cX9_passed, some .int, RX9) := zOK_of zh111 zr111 (fun pc h => zguard h)
def zps112 : List (Nat × Nat) := [(6, 5043), (14, 1108), (19, 5052)]
set_option maxRecDepth 100000 in
theorem zr112 : ∀ pc, pc < 31 → zrowB (yX9_endOf, cX9_endOf, some .int, RX9) zps112 pc (zxi112 pc) = true := by decide +kernel
set_option maxRecDepth 100000 in
theorem zh112 : zheadB 112 (zxi112, 2, 4, 9, 112, 0, 0, 1, 0) (yX9_endOf, cX9_endOf, some .int, RX9) 0 5051 1004 5050 83 = true := by decide +kernel
theorem zm112 : zOK 112 (zxi112, 2, 4, 9, 112, 0, 0, 1, 0) (yX9_endOf, cX9_endOf, some .int, RX9) := zOK_of zh112 zr112 (fun pc h => zguard h)
def zps113 : List (Nat × Nat) := [(57, 5048)]
set_option maxRecDepth 100000 in
theorem zr113 : ∀ pc, pc < 76 → zrowB (yX9_loops, cX9_loops, some .int, RX9) zps113 pc (zxi113 pc) = true := by decide +kernel
set_option maxRecDepth 100000 in
theorem zh113 : zheadB 113 (zxi113, 2, 7, 9, 113, 0, 0, 1, 0) (yX9_loops, cX9_loops, some .int, RX9) 0 5047 1004 5046 82 = true := by decide +kernel
theorem zm113 : zOK 113 (zxi113, 2, 7, 9, 113, 0, 0, 1, 0) (yX9_loops, cX9_loops, some .int, RX9) := zOK_of zh113 zr113 (fun pc h => zguard h)
