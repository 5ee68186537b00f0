/-! LINKS: that the tables are the code's, and which words stand behind each instruction -/
def zln (i : Instr) : Nat := match i with
  | .bipush _ | .iload _ | .lload _ | .aload _ | .istore _ | .lstore _ | .astore _ | .newarray _ | .ldc _ => 2
  | .sipush _ | .iinc _ _ | .goto _ | .ifCond _ _ | .if_icmp _ _ | .getfield _ | .putfield _ | .getstatic _ | .new _ | .invokevirtual _ | .invokespecial _ | .invokestatic _ | .ldc_w _ | .ldc2_w _ => 3
  | .tableswitch _ _ _ _ | .lookupswitch _ _ => 0
  | _ => 1
noncomputable def zlf (own : String) (idx ax p : Nat) : Bool :=
  if ax = 832 then decide (zwd p = some (.fieldLink own idx "java/lang/String" "value" "[B"))
  else if ax = 833 then decide (zwd p = some (.fieldLink own idx "java/lang/String" "coder" "B"))
  else decide (ax / 64 < 12) && decide (ax % 64 < zxCn (ax / 64)) && (decide (zwd p = some (.fieldLink own idx (zTX (ax / 64) (ax % 64)).1 (zTX (ax / 64) (ax % 64)).2.1 (zTX (ax / 64) (ax % 64)).2.2.1)) || decide (zwd p = some (.fieldLinkNest own idx (zTX (ax / 64) (ax % 64)).1 (zTX (ax / 64) (ax % 64)).2.1 (zTX (ax / 64) (ax % 64)).2.2.1 "HornBraider")))
noncomputable def zlc (own : String) (idx ax p k : Nat) : Bool := match zG zMeth (ax / 16) with
  | none => false
  | some me => (decide (ax % 16 = k) && decide (zwd p = some (.methodLink own idx me.1))) || (decide (ax % 16 = k + 1) && decide (zwd p = some (.methodLinkNest own idx me.1 "HornBraider")))
noncomputable def zlk (own : String) (pc : Nat) (i : Instr) (ax p : Nat) : Bool := match i with
  | .goto off => decide ((pc : Int) + off = (ax : Int))
  | .ifCond _ off => decide ((pc : Int) + off = (ax : Int))
  | .if_icmp _ off => decide ((pc : Int) + off = (ax : Int))
  | .getfield idx => zlf own idx ax p
  | .putfield idx => decide (ax < 768) && zlf own idx ax p
  | .getstatic idx => (decide (ax = 1) && decide (zwd p = some (.fieldLink own idx "java/lang/String" "COMPACT_STRINGS" "Z"))) || (decide (ax = 2) && decide (zwd p = some (.fieldLink own idx "jdk/internal/util/Preconditions" "SIOOBE_FORMATTER" "Ljava/util/function/BiFunction;")))
  | .new idx => decide (zwd p = some (.classLink own idx (zcn ax)))
  | .invokevirtual idx => zlc own idx ax p 0
  | .invokespecial idx => (decide (ax = 31) && decide (zwd p = some (.methodLink own idx objectInit))) || zlc own idx ax p 2
  | .invokestatic idx => zlc own idx ax p 4
  | .ldc idx => if ax ≤ 4294967295 then decide (zwd p = some (.constant own idx (Int32.ofNat (zb ax)))) else decide ((zskey (ax - 4294967296)).1 = own ∧ (zskey (ax - 4294967296)).2.1 = idx ∧ ax - 4294967296 < 30)
  | .ldc_w idx => if ax ≤ 4294967295 then decide (zwd p = some (.constant own idx (Int32.ofNat (zb ax)))) else decide ((zskey (ax - 4294967296)).1 = own ∧ (zskey (ax - 4294967296)).2.1 = idx ∧ ax - 4294967296 < 30)
  | .ldc2_w idx => decide (zwd p = some (.constantLong own idx (Int64.ofNat ax)))
  | _ => true
noncomputable def zfind (ps : List (Nat × Nat)) (pc : Nat) : Nat := List.rec (motive := fun _ => Nat) 0 (fun q _ ih => zif (Nat.beq q.1 pc) q.2 ih) ps
noncomputable def zrowB (me : zMe) (ps : List (Nat × Nat)) (pc : Nat) (t : zT) : Bool := decide (t.1 = .nop) || ((decide (zln t.1 = 0) || decide (t.2.1 = pc + zln t.1)) && decide (decode me.2.1 pc = .ok (t.1, t.2.1 - pc)) && zlk me.2.2.2 pc t.1 t.2.2 (zfind ps pc))
def zrowP (me : zMe) (pc : Nat) (t : zT) : Prop := (zln t.1 = 0 ∨ t.2.1 = pc + zln t.1) ∧ decode me.2.1 pc = .ok (t.1, t.2.1 - pc) ∧ ∃ p, zlk me.2.2.2 pc t.1 t.2.2 p = true
def zrk (r : Option FieldType) : Nat := match r with
  | none => 0
  | some .int => 1
  | some .boolean => 2
  | some .long => 3
  | some .byte => 4
  | some .char => 5
  | _ => 9
/-- g: 0 an instance's method, 1 a constructor, 2 static, 3 the law -/
noncomputable def zheadB (y : Nat) (en : zEn) (me : zMe) (g p1 p2 p3 p4 : Nat) : Bool :=
  decide (en.2.2.2.2.1 = y) && decide (zrk me.2.2.1 = en.2.2.2.2.2.2.2.1) && decide (zcn en.2.2.2.1 = me.2.2.2) && decide (me.1.cls = me.2.2.2) && decide (en.2.2.1 ≤ 40) &&
  decide (en.2.2.2.2.2.2.2.2 = if g = 1 then en.2.2.2.1 + 1 else 0) && decide (g = 1 → me.1.name = "<init>" ∧ me.2.2.1 = none) && decide (plainFor me.1 = true) &&
  (decide (g = 3) || (decide (me.1.cls ≠ "java/lang/invoke/MethodHandle") && decide (me.1.cls ≠ "java/lang/invoke/VarHandle") && decide (zwd p1 = some (.code me.1 me.2.1 en.2.2.1 me.2.2.1)) && decide (zwd p2 = some (.initialized me.1.cls)) &&
    decide (zwd p3 = some (if g = 2 then .static me.1 else .instanceMethod me.1)) && decide (g = 0 → zwd p4 = some (.selects me.1.cls me.1 me.1)) &&
    decide ((parseMethodDescriptor me.1.desc).map (fun d => d.parameters.length + (if g = 2 then 0 else 1)) = some en.2.1)))
/-- what the checks give of a method -/
def zOK (y : Nat) (en : zEn) (me : zMe) : Prop :=
  (∀ pc, (en.1 pc).1 = .nop ∨ zrowP me pc (en.1 pc)) ∧ en.2.2.2.2.1 = y ∧ zrk me.2.2.1 = en.2.2.2.2.2.2.2.1 ∧ zcn en.2.2.2.1 = me.2.2.2 ∧ me.1.cls = me.2.2.2 ∧ en.2.2.1 ≤ 40 ∧ plainFor me.1 = true ∧
  ∃ g, (en.2.2.2.2.2.2.2.2 = if g = 1 then en.2.2.2.1 + 1 else 0) ∧ (g = 1 → me.1.name = "<init>" ∧ me.2.2.1 = none) ∧
  (g = 3 ∨ ((me.1.cls ≠ "java/lang/invoke/MethodHandle" ∧ me.1.cls ≠ "java/lang/invoke/VarHandle") ∧ Cond.code me.1 me.2.1 en.2.2.1 me.2.2.1 ∈ lw_tbl ∧ Cond.initialized me.1.cls ∈ lw_tbl ∧ (if g = 2 then Cond.static me.1 else Cond.instanceMethod me.1) ∈ lw_tbl ∧ (g = 0 → Cond.selects me.1.cls me.1 me.1 ∈ lw_tbl) ∧
    (parseMethodDescriptor me.1.desc).map (fun d => d.parameters.length + (if g = 2 then 0 else 1)) = some en.2.1))
theorem zOK_of {y : Nat} {en : zEn} {me : zMe} {ps : List (Nat × Nat)} {g p1 p2 p3 p4 len : Nat} (h1 : zheadB y en me g p1 p2 p3 p4 = true) (h2 : ∀ pc, pc < len → zrowB me ps pc (en.1 pc) = true) (h3 : ∀ pc, len ≤ pc → en.1 pc = zxno) : zOK y en me := by
  unfold zheadB at h1
  simp only [Bool.and_eq_true, Bool.or_eq_true, decide_eq_true_eq] at h1
  obtain ⟨⟨⟨⟨⟨⟨⟨⟨a1, a2⟩, a3⟩, a4⟩, a5⟩, a6⟩, a7⟩, a8⟩, a9⟩ := h1
  refine ⟨fun pc => ?_, a1, a2, a3, a4, a5, a8, g, a6, a7, ?_⟩
  · by_cases h : pc < len
    · have h4 := h2 pc h
      unfold zrowB at h4
      simp only [Bool.and_eq_true, Bool.or_eq_true, decide_eq_true_eq] at h4
      rcases h4 with h4 | ⟨⟨h4, h5⟩, h6⟩
      · exact Or.inl h4
      · exact Or.inr ⟨h4, h5, _, h6⟩
    · rw [h3 pc (by omega)]
      exact Or.inl rfl
  · rcases a9 with a9 | ⟨⟨⟨⟨⟨⟨b1, b2⟩, b3⟩, b4⟩, b5⟩, b6⟩, b7⟩
    · exact Or.inl a9
    · exact Or.inr ⟨⟨b1, b2⟩, zwd_mem b3, zwd_mem b4, zwd_mem b5, fun h => zwd_mem (b6 h), b7⟩
theorem zguard {len pc : Nat} {t : zT} (h : len ≤ pc) : Bool.rec (motive := fun _ => zT) zxno t (Nat.ble (Nat.succ pc) len) = zxno := by
  have e : Nat.ble (Nat.succ pc) len = false := by
    cases q : Nat.ble (Nat.succ pc) len with
    | false => rfl
    | true => exact absurd (Nat.le_of_ble_eq_true q) (by omega)
  rw [e]
theorem zif_iffW {c t e : Bool} (h : zif c t e = true) : (c = true ∧ t = true) ∨ (c = false ∧ e = true) := by
  cases c with
  | true => exact Or.inl ⟨rfl, h⟩
  | false => exact Or.inr ⟨rfl, h⟩
/-! DECODING BY SLICES: an instruction is decoded out of its own three bytes -/
section ZRR
def zrr {α : Type} (r1 r2 : Decoder α) : Prop := ∀ (c1 c2 : ByteArray) (p1 p2 : Nat), (∀ k b, c1.data.toList[p1 + k]? = some b → c2.data.toList[p2 + k]? = some b) → ∀ a q, r1 c1 p1 = .ok (a, q) → p1 ≤ q ∧ r2 c2 p2 = .ok (a, p2 + (q - p1))
theorem zrr_pure {α : Type} (a : α) : zrr (pure a : Decoder α) (pure a) := by
  intro c1 c2 p1 p2 hs b q h
  have h : Except.ok (a, p1) = (Except.ok (b, q) : Except DecodeError (α × Nat)) := h
  cases h
  exact ⟨Nat.le_refl _, by
    show Except.ok (a, p2) = _
    rw [Nat.sub_self, Nat.add_zero]⟩
theorem zrr_throw {α : Type} {e : DecodeError} {r : Decoder α} : zrr (throw e : Decoder α) r := by
  intro c1 c2 p1 p2 hs b q h
  have h : Except.error e = (Except.ok (b, q) : Except DecodeError (α × Nat)) := h
  cases h
theorem zrr_bind {α β : Type} {r1 r2 : Decoder α} {f1 f2 : α → Decoder β} (h : zrr r1 r2) (hf : ∀ a, zrr (f1 a) (f2 a)) : zrr (r1 >>= f1) (r2 >>= f2) := by
  intro c1 c2 p1 p2 hs b q hq
  have e1 : (r1 >>= f1) c1 p1 = (match r1 c1 p1 with | .ok (a, s) => f1 a c1 s | .error e => .error e) := by
    show (Except.bind (r1 c1 p1) _) = _
    cases r1 c1 p1 with
    | error e => rfl
    | ok a => rfl
  have e2 : (r2 >>= f2) c2 p2 = (match r2 c2 p2 with | .ok (a, s) => f2 a c2 s | .error e => .error e) := by
    show (Except.bind (r2 c2 p2) _) = _
    cases r2 c2 p2 with
    | error e => rfl
    | ok a => rfl
  rw [e1] at hq
  rw [e2]
  cases hr : r1 c1 p1 with
  | error e => rw [hr] at hq; cases hq
  | ok a =>
    obtain ⟨a, s⟩ := a
    rw [hr] at hq
    obtain ⟨g1, g2⟩ := h c1 c2 p1 p2 hs a s hr
    obtain ⟨g3, g4⟩ := hf a c1 c2 s (p2 + (s - p1)) (fun k b hb => by
      have := hs (s - p1 + k) b (by rw [show p1 + (s - p1 + k) = s + k by omega]; exact hb)
      rw [show p2 + (s - p1) + k = p2 + (s - p1 + k) by omega]
      exact this) b q hq
    rw [g2]
    refine ⟨by omega, ?_⟩
    show f2 a c2 (p2 + (s - p1)) = _
    rw [g4, show p2 + (s - p1) + (q - s) = p2 + (q - p1) by omega]
theorem zu1_ok {c : ByteArray} {p : Nat} {b : UInt8} (h : c.data.toList[p]? = some b) : (Reader.u1 : Decoder Nat) c p = .ok (b.toNat, p + 1) := by
  have hp : p < c.size := by
    have := (List.getElem?_eq_some_iff.mp h).1
    rw [Array.length_toList] at this
    exact this
  have e : (Reader.u1 : Decoder Nat) c p = (if h : p < c.size then Except.ok (c[p].toNat, p + 1) else Except.error (HasTruncated.truncated p)) := by
    by_cases h : p < c.size
    · rw [dif_pos h]
      unfold Reader.u1
      show (if h : p < c.size then _ else _ : Decoder Nat) c p = _
      rw [dif_pos h]
      rfl
    · exact absurd hp h
  rw [e, dif_pos hp]
  have : c[p] = b := by
    have h2 := (List.getElem?_eq_some_iff.mp h).2
    rw [← h2]
    rfl
  rw [this]
theorem zu1_inv {c : ByteArray} {p a q : Nat} (h : (Reader.u1 : Decoder Nat) c p = .ok (a, q)) : ∃ b, c.data.toList[p]? = some b ∧ a = b.toNat ∧ q = p + 1 := by
  by_cases hp : p < c.size
  · have hl : p < c.data.toList.length := by rw [Array.length_toList]; exact hp
    have e := zu1_ok (List.getElem?_eq_getElem hl)
    rw [e] at h
    cases h
    exact ⟨_, List.getElem?_eq_getElem hl, rfl, rfl⟩
  · exfalso
    unfold Reader.u1 at h
    have h : (if h : p < c.size then _ else throw (HasTruncated.truncated p) : Decoder Nat) c p = .ok (a, q) := h
    rw [dif_neg hp] at h
    cases h
theorem zrr_u1 : zrr Reader.u1 Reader.u1 := by
  intro c1 c2 p1 p2 hs a q h
  obtain ⟨b, h1, rfl, rfl⟩ := zu1_inv h
  refine ⟨by omega, ?_⟩
  rw [zu1_ok (show c2.data.toList[p2]? = some b from hs 0 b h1), show p1 + 1 - p1 = 1 by omega]
theorem zrr_u2 : zrr Reader.u2 Reader.u2 := zrr_bind zrr_u1 (fun _ => zrr_bind zrr_u1 (fun _ => zrr_pure _))
theorem zrr_u4 : zrr Reader.u4 Reader.u4 := zrr_bind zrr_u2 (fun _ => zrr_bind zrr_u2 (fun _ => zrr_pure _))
theorem zrr_map {α β : Type} {f : α → β} {r1 r2 : Decoder α} (h : zrr r1 r2) : zrr (f <$> r1) (f <$> r2) := zrr_bind (f1 := fun a => pure (f a)) (f2 := fun a => pure (f a)) h (fun _ => zrr_pure _)
theorem zrr_s1 : zrr Reader.s1 Reader.s1 := zrr_map zrr_u1
theorem zrr_s2 : zrr Reader.s2 Reader.s2 := zrr_map zrr_u2
theorem zrr_s4 : zrr Reader.s4 Reader.s4 := zrr_map zrr_u4
noncomputable def zspc (v : Nat) : Bool := zif (Nat.beq v 170) true (zif (Nat.beq v 171) true (zif (Nat.beq v 185) true (zif (Nat.beq v 186) true (zif (Nat.beq v 188) true (zif (Nat.beq v 196) true (Nat.beq v 197))))))
set_option maxHeartbeats 4000000 in
set_option maxRecDepth 20000 in
theorem zrr_instr {c1 c2 : ByteArray} {p1 p2 a1 a2 : Nat} (hs : ∀ k b, c1.data.toList[p1 + k]? = some b → c2.data.toList[p2 + k]? = some b) {b : UInt8} (hb : c1.data.toList[p1]? = some b) (hn : zspc b.toNat = false) {i : Instr} {q : Nat} (h : Decoder.instr a1 c1 p1 = .ok (i, q)) : p1 ≤ q ∧ Decoder.instr a2 c2 p2 = .ok (i, p2 + (q - p1)) := by
  unfold Decoder.instr at h ⊢
  have e1 := zu1_ok hb
  have e2 := zu1_ok (show c2.data.toList[p2]? = some b from hs 0 b hb)
  have hs2 : ∀ k b, c1.data.toList[p1 + 1 + k]? = some b → c2.data.toList[p2 + 1 + k]? = some b := fun k b h => by
    have := hs (1 + k) b (by rw [show p1 + (1 + k) = p1 + 1 + k by omega]; exact h)
    rw [show p2 + 1 + k = p2 + (1 + k) by omega]
    exact this
  generalize b.toNat = v at hn e1 e2
  have bd : ∀ {f : Nat → Decoder Instr} {c : ByteArray} {p : Nat}, (Reader.u1 : Decoder Nat) c p = .ok (v, p + 1) → (Reader.u1 >>= f) c p = f v c (p + 1) := by
    intro f c p e
    show (Except.bind ((Reader.u1 : Decoder Nat) c p) _) = _
    rw [e]
    rfl
  rw [bd e1] at h
  rw [bd e2]
  have key : ∀ {r1 r2 : Decoder Instr}, zrr r1 r2 → r1 c1 (p1 + 1) = .ok (i, q) → p1 ≤ q ∧ r2 c2 (p2 + 1) = .ok (i, p2 + (q - p1)) := by
    intro r1 r2 hr h
    obtain ⟨g1, g2⟩ := hr c1 c2 _ _ hs2 _ _ h
    exact ⟨by omega, by rw [g2, show p2 + 1 + (q - (p1 + 1)) = p2 + (q - p1) by omega]⟩
  revert h
  refine key ?_
  split <;> first
    | exact zrr_pure _
    | exact zrr_throw
    | exact zrr_bind zrr_u1 (fun _ => zrr_pure _)
    | exact zrr_bind zrr_u2 (fun _ => zrr_pure _)
    | exact zrr_bind zrr_s1 (fun _ => zrr_pure _)
    | exact zrr_bind zrr_s2 (fun _ => zrr_pure _)
    | exact zrr_bind zrr_s4 (fun _ => zrr_pure _)
    | exact zrr_bind zrr_u1 (fun _ => zrr_bind zrr_s1 (fun _ => zrr_pure _))
    | (exfalso; revert hn; decide)
end ZRR
section ZOP
/-- what one, two, three bytes say (those that the classes use) -/
def zop1 : List (Nat × Instr) := [(42, .aload_n 0), (43, .aload_n 1), (44, .aload_n 2), (45, .aload_n 3), (2, .iconst (-1)), (3, .iconst 0), (4, .iconst 1), (5, .iconst 2), (6, .iconst 3), (7, .iconst 4), (8, .iconst 5), (26, .iload_n 0), (27, .iload_n 1), (28, .iload_n 2), (29, .iload_n 3), (172, .ireturn), (46, .iaload), (96, .iadd), (59, .istore_n 0), (60, .istore_n 1), (61, .istore_n 2), (62, .istore_n 3), (177, .return_), (79, .iastore), (87, .pop), (100, .isub), (9, .lconst 0), (10, .lconst 1), (30, .lload_n 0), (31, .lload_n 1), (32, .lload_n 2), (33, .lload_n 3), (63, .lstore_n 0), (64, .lstore_n 1), (65, .lstore_n 2), (66, .lstore_n 3), (75, .astore_n 0), (76, .astore_n 1), (77, .astore_n 2), (78, .astore_n 3), (47, .laload), (51, .baload), (80, .lastore), (84, .bastore), (89, .dup), (92, .dup2), (97, .ladd), (101, .lsub), (104, .imul), (105, .lmul), (108, .idiv), (109, .ldiv), (112, .irem), (113, .lrem), (116, .ineg), (117, .lneg), (120, .ishl), (121, .lshl), (122, .ishr), (123, .lshr), (126, .iand), (127, .land), (128, .ior), (129, .lor), (130, .ixor), (133, .i2l), (136, .l2i), (145, .i2b), (146, .i2c), (148, .lcmp), (173, .lreturn), (176, .areturn), (190, .arraylength), (191, .athrow)]
def zop2 : List (Nat × (UInt8 → Instr)) := [(16, fun c => .bipush (Reader.signed 8 c.toNat)), (21, fun c => .iload c.toNat), (54, fun c => .istore c.toNat), (18, fun c => .ldc c.toNat), (22, fun c => .lload c.toNat), (25, fun c => .aload c.toNat), (55, fun c => .lstore c.toNat), (58, fun c => .astore c.toNat)]
def zop3 : List (Nat × (UInt8 → UInt8 → Instr)) := [(180, fun c d => .getfield (c.toNat * 256 + d.toNat)), (182, fun c d => .invokevirtual (c.toNat * 256 + d.toNat)), (167, fun c d => .goto (Reader.signed 16 (c.toNat * 256 + d.toNat))), (159, fun c d => .if_icmp .eq (Reader.signed 16 (c.toNat * 256 + d.toNat))), (160, fun c d => .if_icmp .ne (Reader.signed 16 (c.toNat * 256 + d.toNat))), (161, fun c d => .if_icmp .lt (Reader.signed 16 (c.toNat * 256 + d.toNat))), (162, fun c d => .if_icmp .ge (Reader.signed 16 (c.toNat * 256 + d.toNat))), (163, fun c d => .if_icmp .gt (Reader.signed 16 (c.toNat * 256 + d.toNat))), (164, fun c d => .if_icmp .le (Reader.signed 16 (c.toNat * 256 + d.toNat))), (153, fun c d => .ifCond .eq (Reader.signed 16 (c.toNat * 256 + d.toNat))), (154, fun c d => .ifCond .ne (Reader.signed 16 (c.toNat * 256 + d.toNat))), (155, fun c d => .ifCond .lt (Reader.signed 16 (c.toNat * 256 + d.toNat))), (156, fun c d => .ifCond .ge (Reader.signed 16 (c.toNat * 256 + d.toNat))), (157, fun c d => .ifCond .gt (Reader.signed 16 (c.toNat * 256 + d.toNat))), (158, fun c d => .ifCond .le (Reader.signed 16 (c.toNat * 256 + d.toNat))), (181, fun c d => .putfield (c.toNat * 256 + d.toNat)), (132, fun c d => .iinc c.toNat (Reader.signed 8 d.toNat)), (17, fun c d => .sipush (Reader.signed 16 (c.toNat * 256 + d.toNat))), (184, fun c d => .invokestatic (c.toNat * 256 + d.toNat)), (183, fun c d => .invokespecial (c.toNat * 256 + d.toNat)), (187, fun c d => .new (c.toNat * 256 + d.toNat)), (20, fun c d => .ldc2_w (c.toNat * 256 + d.toNat)), (19, fun c d => .ldc_w (c.toNat * 256 + d.toNat)), (178, fun c d => .getstatic (c.toNat * 256 + d.toNat))]
set_option maxRecDepth 100000 in
theorem zop1_ok : ∀ q ∈ zop1, decode (ByteArray.mk (List.toArray [UInt8.ofNat q.1])) 0 = .ok (q.2, 1) := by decide +kernel
set_option maxRecDepth 100000 in
theorem zop2_ok : ∀ q ∈ zop2, ∀ c : UInt8, decode (ByteArray.mk (List.toArray [UInt8.ofNat q.1, c])) 0 = .ok (q.2 c, 2) := by
  intro q hq c
  simp only [zop2, List.mem_cons, List.not_mem_nil, or_false] at hq
  rcases hq with rfl | rfl | rfl | rfl | rfl | rfl | rfl | rfl <;> rfl
set_option maxRecDepth 100000 in
theorem zop3_ok : ∀ q ∈ zop3, ∀ c d : UInt8, decode (ByteArray.mk (List.toArray [UInt8.ofNat q.1, c, d])) 0 = .ok (q.2 c d, 3) := by
  intro q hq c d
  simp only [zop3, List.mem_cons, List.not_mem_nil, or_false] at hq
  rcases hq with rfl | rfl | rfl | rfl | rfl | rfl | rfl | rfl | rfl | rfl | rfl | rfl | rfl | rfl | rfl | rfl | rfl | rfl | rfl | rfl | rfl | rfl | rfl | rfl <;> rfl
noncomputable def zlkp {α : Type} (T : List (Nat × α)) (v : Nat) (k : α → Bool) : Bool := List.rec (motive := fun _ => Bool) false (fun q _ ih => zif (Nat.beq q.1 v) (k q.2) ih) T
theorem zlkp_iff {α : Type} {T : List (Nat × α)} {v : Nat} {k : α → Bool} (h : zlkp T v k = true) : ∃ q ∈ T, q.1 = v ∧ k q.2 = true := by
  induction T with
  | nil => cases h
  | cons a t ih =>
    have h : zif (Nat.beq a.1 v) (k a.2) (zlkp t v k) = true := h
    rcases zif_iffW h with ⟨h1, h2⟩ | ⟨-, h2⟩
    · exact ⟨a, List.mem_cons_self, Nat.eq_of_beq_eq_true h1, h2⟩
    · obtain ⟨q, g1, g2⟩ := ih h2
      exact ⟨q, List.mem_cons_of_mem _ g1, g2⟩
noncomputable def zopB (b : UInt8) (l : List UInt8) (i : Instr) (n : Nat) : Bool := zif (Nat.beq n 1) (zlkp zop1 b.toNat (fun j => decide (j = i))) (List.rec (motive := fun _ => Bool) false (fun c l2 _ => zif (Nat.beq n 2) (zlkp zop2 b.toNat (fun f => decide (f c = i))) (List.rec (motive := fun _ => Bool) false (fun d _ _ => zif (Nat.beq n 3) (zlkp zop3 b.toNat (fun f => decide (f c d = i))) false) l2)) l)
theorem zopB_iff {b : UInt8} {l : List UInt8} {i : Instr} {n : Nat} (h : zopB b l i n = true) : decode (ByteArray.mk (List.toArray (b :: l.take (n - 1)))) 0 = .ok (i, n) := by
  have hb : ∀ {q : Nat}, q = b.toNat → b = UInt8.ofNat q := fun e => by rw [e, UInt8.ofNat_toNat]
  rcases zif_iffW h with ⟨h1, h2⟩ | ⟨-, h2⟩
  · have h1 := Nat.eq_of_beq_eq_true h1
    subst h1
    obtain ⟨q, g1, g2, g3⟩ := zlkp_iff h2
    have := zop1_ok q g1
    rw [← hb g2, of_decide_eq_true g3] at this
    exact this
  · cases l with
    | nil => cases h2
    | cons c l2 =>
      rcases zif_iffW h2 with ⟨h1, h4⟩ | ⟨-, h4⟩
      · have h1 := Nat.eq_of_beq_eq_true h1
        subst h1
        obtain ⟨q, g1, g2, g3⟩ := zlkp_iff h4
        have := zop2_ok q g1 c
        rw [← hb g2, of_decide_eq_true g3] at this
        exact this
      · cases l2 with
        | nil => cases h4
        | cons d l3 =>
          rcases zif_iffW h4 with ⟨h1, h5⟩ | ⟨-, h5⟩
          · have h1 := Nat.eq_of_beq_eq_true h1
            subst h1
            obtain ⟨q, g1, g2, g3⟩ := zlkp_iff h5
            have := zop3_ok q g1 c d
            rw [← hb g2, of_decide_eq_true g3] at this
            exact this
          · cases h5
end ZOP
def zinop (i : Instr) : Bool := match i with
  | .nop => true
  | _ => false
theorem zinop_iff {i : Instr} (h : zinop i = true) : i = .nop := by
  cases i <;> first | rfl | cases h
/-- a method's rows, along its bytes -/
noncomputable def zrow1 (me : zMe) (ps : List (Nat × Nat)) (pc : Nat) (t : zT) (b : UInt8) (l : List UInt8) : Bool := zinop t.1 || ((zif (zspc b.toNat) ((decide (zln t.1 = 0) || decide (t.2.1 = pc + zln t.1)) && decide (decode me.2.1 pc = .ok (t.1, t.2.1 - pc))) (decide (t.2.1 = pc + zln t.1) && zopB b l t.1 (zln t.1))) && zlk me.2.2.2 pc t.1 t.2.2 (zfind ps pc))
noncomputable def zwk (me : zMe) (ps : List (Nat × Nat)) (f : Nat → zT) (L : List UInt8) : Nat → Bool := List.rec (motive := fun _ => Nat → Bool) (fun _ => true) (fun b t ih pc => zif (zrow1 me ps pc (f pc) b t) (zfr false (Nat.succ pc) ih) false) L
theorem zwk_iff {me : zMe} {ps : List (Nat × Nat)} {f : Nat → zT} : ∀ {L : List UInt8} {p : Nat}, zwk me ps f L p = true → ∀ k, k < L.length → ∃ b l, L.drop k = b :: l ∧ zrow1 me ps (p + k) (f (p + k)) b l = true := by
  intro L
  induction L with
  | nil => intro p _ k hk; cases hk
  | cons b t ih =>
    intro p h k hk
    have h : zif (zrow1 me ps p (f p) b t) (zfr false (Nat.succ p) (zwk me ps f t)) false = true := h
    rcases zif_iffW h with ⟨h1, h2⟩ | ⟨-, h2⟩
    · rw [zfr_eq] at h2
      cases k with
      | zero => exact ⟨b, t, rfl, h1⟩
      | succ k =>
        obtain ⟨b2, l2, h3, h4⟩ := ih h2 k (by simpa using hk)
        rw [show p + (k + 1) = Nat.succ p + k by omega]
        exact ⟨b2, l2, h3, h4⟩
    · cases h2
theorem zdec_slice {code : ByteArray} {pc m : Nat} {b : UInt8} {l : List UInt8} (hd : code.data.toList.drop pc = b :: l) (hn : zspc b.toNat = false) {i : Instr} {n : Nat} (h : decode (ByteArray.mk (b :: l.take m).toArray) 0 = .ok (i, n)) : decode code pc = .ok (i, n) := by
  have hg : ∀ k, code.data.toList[pc + k]? = (b :: l)[k]? := fun k => by rw [← hd, List.getElem?_drop]
  have hs : ∀ k c, (ByteArray.mk (b :: l.take m).toArray).data.toList[0 + k]? = some c → code.data.toList[pc + k]? = some c := by
    intro k c hk
    rw [hg k]
    have hk : (b :: l.take m)[0 + k]? = some c := hk
    rw [Nat.zero_add] at hk
    cases k with
    | zero => exact hk
    | succ k =>
      have hk : (l.take m)[k]? = some c := hk
      show l[k]? = some c
      rw [List.getElem?_take] at hk
      split at hk
      · exact hk
      · cases hk
  have e : ∀ (c : ByteArray) (q : Nat), decode c q = (match Decoder.instr q c q with | .ok (i, s) => .ok (i, s - q) | .error e => .error e) := by
    intro c q
    show (Except.bind (Decoder.instr q c q) _) = _
    cases Decoder.instr q c q with
    | error e => rfl
    | ok a => rfl
  rw [e] at h
  cases hr : Decoder.instr 0 (ByteArray.mk (b :: l.take m).toArray) 0 with
  | error e => rw [hr] at h; cases h
  | ok a =>
    obtain ⟨i2, s⟩ := a
    rw [hr] at h
    obtain ⟨g1, g2⟩ := zrr_instr (a2 := pc) hs (show (ByteArray.mk (b :: l.take m).toArray).data.toList[0]? = some b from rfl) hn hr
    cases h
    rw [e, g2]
    show Except.ok (i, pc + (s - 0) - pc) = _
    rw [show pc + (s - 0) - pc = s - 0 by omega]
theorem zrow1_iff {me : zMe} {ps : List (Nat × Nat)} {pc : Nat} {t : zT} {b : UInt8} {l : List UInt8} (hd : me.2.1.data.toList.drop pc = b :: l) (h : zrow1 me ps pc t b l = true) : t.1 = .nop ∨ zrowP me pc t := by
  unfold zrow1 at h
  rw [Bool.or_eq_true, Bool.and_eq_true] at h
  rcases h with h | ⟨h, h3⟩
  · exact Or.inl (zinop_iff h)
  · refine Or.inr ?_
    rcases zif_iffW h with ⟨-, h⟩ | ⟨h0, h⟩
    · rw [Bool.and_eq_true, Bool.or_eq_true] at h
      obtain ⟨h1, h2⟩ := h
      exact ⟨h1.imp of_decide_eq_true of_decide_eq_true, of_decide_eq_true h2, _, h3⟩
    · rw [Bool.and_eq_true] at h
      obtain ⟨h1, h2⟩ := h
      have h1 := of_decide_eq_true h1
      have h2 := zdec_slice hd h0 (zopB_iff h2)
      exact ⟨Or.inr h1, by rw [h2, h1, Nat.add_sub_cancel_left], _, h3⟩
noncomputable def zrowsB (me : zMe) (ps : List (Nat × Nat)) (f : Nat → zT) (len : Nat) : Bool := zif (Nat.ble len me.2.1.data.toList.length) (zwk me ps f me.2.1.data.toList 0) false
theorem zOK_of2 {y : Nat} {en : zEn} {me : zMe} {ps : List (Nat × Nat)} {g p1 p2 p3 p4 len : Nat} (h1 : zheadB y en me g p1 p2 p3 p4 = true) (h2 : zrowsB me ps en.1 len = true) (h3 : ∀ pc, len ≤ pc → en.1 pc = zxno) : zOK y en me := by
  unfold zheadB at h1
  simp only [Bool.and_eq_true, Bool.or_eq_true, decide_eq_true_eq] at h1
  obtain ⟨⟨⟨⟨⟨⟨⟨⟨a1, a2⟩, a3⟩, a4⟩, a5⟩, a6⟩, a7⟩, a8⟩, a9⟩ := h1
  obtain ⟨b1, b2⟩ : Nat.ble len me.2.1.data.toList.length = true ∧ zwk me ps en.1 me.2.1.data.toList 0 = true := by
    rcases zif_iffW h2 with h | ⟨-, h⟩
    · exact h
    · cases h
  have b1 := Nat.le_of_ble_eq_true b1
  refine ⟨fun pc => ?_, a1, a2, a3, a4, a5, a8, g, a6, a7, ?_⟩
  · by_cases h : pc < me.2.1.data.toList.length
    · obtain ⟨b, l, e1, e2⟩ := zwk_iff b2 pc h
      rw [Nat.zero_add] at e2
      exact zrow1_iff e1 e2
    · rw [h3 pc (by omega)]
      exact Or.inl rfl
  · rcases a9 with a9 | ⟨⟨⟨⟨⟨⟨b1, b2⟩, b3⟩, b4⟩, b5⟩, b6⟩, b7⟩
    · exact Or.inl a9
    · exact Or.inr ⟨⟨b1, b2⟩, zwd_mem b3, zwd_mem b4, zwd_mem b5, fun h => zwd_mem (b6 h), b7⟩
/-- as zheadB, but for the code's own word, which is shown by rfl: the bytes aren't compared one by one -/
noncomputable def zheadC (y : Nat) (en : zEn) (me : zMe) (g p2 p3 p4 : Nat) : Bool :=
  decide (en.2.2.2.2.1 = y) && decide (zrk me.2.2.1 = en.2.2.2.2.2.2.2.1) && decide (zcn en.2.2.2.1 = me.2.2.2) && decide (me.1.cls = me.2.2.2) && decide (en.2.2.1 ≤ 40) &&
  decide (en.2.2.2.2.2.2.2.2 = if g = 1 then en.2.2.2.1 + 1 else 0) && decide (g = 1 → me.1.name = "<init>" ∧ me.2.2.1 = none) && decide (plainFor me.1 = true) &&
  (decide (me.1.cls ≠ "java/lang/invoke/MethodHandle") && decide (me.1.cls ≠ "java/lang/invoke/VarHandle") && decide (zwd p2 = some (.initialized me.1.cls)) &&
    decide (zwd p3 = some (if g = 2 then .static me.1 else .instanceMethod me.1)) && decide (g = 0 → zwd p4 = some (.selects me.1.cls me.1 me.1)) &&
    decide ((parseMethodDescriptor me.1.desc).map (fun d => d.parameters.length + (if g = 2 then 0 else 1)) = some en.2.1))
theorem zheadB_of {y : Nat} {en : zEn} {me : zMe} {g p1 p2 p3 p4 : Nat} (hw : zwd p1 = some (.code me.1 me.2.1 en.2.2.1 me.2.2.1)) (h : zheadC y en me g p2 p3 p4 = true) : zheadB y en me g p1 p2 p3 p4 = true := by
  unfold zheadC at h
  unfold zheadB
  simp only [Bool.and_eq_true, Bool.or_eq_true, decide_eq_true_eq] at h ⊢
  obtain ⟨⟨⟨⟨⟨⟨⟨⟨a1, a2⟩, a3⟩, a4⟩, a5⟩, a6⟩, a7⟩, a8⟩, ⟨⟨⟨⟨⟨b1, b2⟩, b4⟩, b5⟩, b6⟩, b7⟩⟩ := h
  exact ⟨⟨⟨⟨⟨⟨⟨⟨a1, a2⟩, a3⟩, a4⟩, a5⟩, a6⟩, a7⟩, a8⟩, Or.inr ⟨⟨⟨⟨⟨⟨b1, b2⟩, hw⟩, b4⟩, b5⟩, b6⟩, b7⟩⟩
def zps0 : List (Nat × Nat) := [(0, 1018), (4, 1020), (8, 6045), (12, 6047), (229, 2224), (234, 6212), (267, 2228), (297, 8213), (310, 2236), (320, 8221), (333, 3153), (343, 9052), (356, 3157), (366, 7123), (384, 3173), (399, 7153), (417, 3192), (431, 7181), (450, 3196), (465, 7185), (478, 3208), (488, 7209), (501, 3220), (511, 7225), (534, 3224), (554, 7237), (572, 3228), (587, 8001), (613, 3232), (636, 8005), (649, 3236), (659, 8009), (672, 4002), (682, 8021), (700, 4014), (715, 8025), (728, 4018), (738, 8029), (746, 4061), (751, 8069), (759, 4065), (764, 8073), (772, 4069), (777, 9056), (790, 4136), (800, 9100), (818, 4140), (833, 8077), (856, 4149), (876, 8086), (889, 4167), (899, 8090), (917, 4171), (932, 8098), (945, 4179), (955, 8114), (968, 4197), (978, 8118), (1001, 4201), (1021, 8122), (1034, 4229), (1044, 8130), (1052, 5005), (1057, 8134), (1070, 5010), (1080, 8138), (1093, 5022), (1103, 7115), (1116, 5031), (1126, 7119), (1139, 5035), (1149, 6216), (1162, 5139), (1172, 7095), (1190, 5148), (1205, 7103), (1223, 5156), (1238, 7107), (1251, 5172), (1261, 7111), (1274, 5176), (1284, 8142), (1307, 5214), (1327, 8169), (1345, 5218), (1360, 8173), (1383, 5222), (1403, 8177), (1411, 5230), (1416, 8181), (1429, 5234), (1439, 8185), (1457, 6037), (1472, 8209)]
set_option maxRecDepth 100000 in
theorem zr0 : zrowsB (yL_law, cL_law, some .boolean, RL) zps0 zxi0 1487 = true := by decide +kernel
set_option maxRecDepth 100000 in
theorem zh0 : zheadB 0 (zxi0, 0, 4, 17, 0, 600000, 7302250, 2, 0) (yL_law, cL_law, some .boolean, RL) 3 0 0 0 0 = true := by decide +kernel
theorem zm0 : zOK 0 (zxi0, 0, 4, 17, 0, 600000, 7302250, 2, 0) (yL_law, cL_law, some .boolean, RL) := zOK_of2 (len := 1487) zh0 zr0 (fun pc h => zguard h)
def zps1 : List (Nat × Nat) := [(1, 2094), (10, 2095)]
set_option maxRecDepth 100000 in
theorem zr1 : zrowsB (yX0_init, cX0_init, none, RX0) zps1 zxi1 14 = true := by decide +kernel
set_option maxRecDepth 100000 in
theorem zhc1 : zheadC 1 (zxi1, 1, 1, 0, 1, 1, 1140, 0, 1) (yX0_init, cX0_init, none, RX0) 1 1010 2092 0 = true := by decide +kernel
set_option maxRecDepth 100000 in
theorem zh1 : zheadB 1 (zxi1, 1, 1, 0, 1, 1, 1140, 0, 1) (yX0_init, cX0_init, none, RX0) 1 2093 1010 2092 0 = true := zheadB_of rfl zhc1
theorem zm1 : zOK 1 (zxi1, 1, 1, 0, 1, 1, 1140, 0, 1) (yX0_init, cX0_init, none, RX0) := zOK_of2 (len := 14) zh1 zr1 (fun pc h => zguard h)
def zps2 : List (Nat × Nat) := [(2, 2096), (7, 2097), (15, 2096), (23, 2095)]
set_option maxRecDepth 100000 in
theorem zr2 : zrowsB (yX0_begin, cX0_begin, none, RX0) zps2 zxi2 42 = true := by decide +kernel
set_option maxRecDepth 100000 in
theorem zhc2 : zheadC 2 (zxi2, 2, 3, 0, 2, 0, 0, 0, 0) (yX0_begin, cX0_begin, none, RX0) 0 1010 5062 85 = true := by decide +kernel
set_option maxRecDepth 100000 in
theorem zh2 : zheadB 2 (zxi2, 2, 3, 0, 2, 0, 0, 0, 0) (yX0_begin, cX0_begin, none, RX0) 0 5063 1010 5062 85 = true := zheadB_of rfl zhc2
theorem zm2 : zOK 2 (zxi2, 2, 3, 0, 2, 0, 0, 0, 0) (yX0_begin, cX0_begin, none, RX0) := zOK_of2 (len := 42) zh2 zr2 (fun pc h => zguard h)
def zps3 : List (Nat × Nat) := [(4, 5068), (13, 1109), (19, 5069)]
set_option maxRecDepth 100000 in
theorem zr3 : zrowsB (yX0_follow, cX0_follow, none, RX0) zps3 zxi3 29 = true := by decide +kernel
set_option maxRecDepth 100000 in
theorem zhc3 : zheadC 3 (zxi3, 3, 4, 0, 3, 0, 0, 0, 0) (yX0_follow, cX0_follow, none, RX0) 0 1010 5066 86 = true := by decide +kernel
set_option maxRecDepth 100000 in
theorem zh3 : zheadB 3 (zxi3, 3, 4, 0, 3, 0, 0, 0, 0) (yX0_follow, cX0_follow, none, RX0) 0 5067 1010 5066 86 = true := zheadB_of rfl zhc3
theorem zm3 : zOK 3 (zxi3, 3, 4, 0, 3, 0, 0, 0, 0) (yX0_follow, cX0_follow, none, RX0) := zOK_of2 (len := 29) zh3 zr3 (fun pc h => zguard h)
def zps4 : List (Nat × Nat) := [(1, 5068), (13, 1109), (18, 5069)]
set_option maxRecDepth 100000 in
theorem zr4 : zrowsB (yX0_followBack, cX0_followBack, none, RX0) zps4 zxi4 28 = true := by decide +kernel
set_option maxRecDepth 100000 in
theorem zhc4 : zheadC 4 (zxi4, 2, 3, 0, 4, 0, 0, 0, 0) (yX0_followBack, cX0_followBack, none, RX0) 0 1010 5133 101 = true := by decide +kernel
set_option maxRecDepth 100000 in
theorem zh4 : zheadB 4 (zxi4, 2, 3, 0, 4, 0, 0, 0, 0) (yX0_followBack, cX0_followBack, none, RX0) 0 5134 1010 5133 101 = true := zheadB_of rfl zhc4
theorem zm4 : zOK 4 (zxi4, 2, 3, 0, 4, 0, 0, 0, 0) (yX0_followBack, cX0_followBack, none, RX0) := zOK_of2 (len := 28) zh4 zr4 (fun pc h => zguard h)
def zps5 : List (Nat × Nat) := [(1, 5073), (12, 2096), (57, 5074), (66, 5078), (76, 5078), (85, 5083), (94, 5091), (100, 5074), (109, 5091), (118, 5078), (124, 5074), (133, 5083), (142, 5078), (151, 5091), (160, 5091), (169, 5083), (178, 5083), (186, 5095), (195, 5091), (204, 5091), (210, 5099), (219, 5099), (228, 5099), (237, 5099), (244, 5107)]
set_option maxRecDepth 100000 in
theorem zr5 : zrowsB (yX0_act, cX0_act, none, RX0) zps5 zxi5 248 = true := by decide +kernel
set_option maxRecDepth 100000 in
theorem zhc5 : zheadC 5 (zxi5, 2, 8, 0, 5, 0, 0, 0, 0) (yX0_act, cX0_act, none, RX0) 0 1010 5071 87 = true := by decide +kernel
set_option maxRecDepth 100000 in
theorem zh5 : zheadB 5 (zxi5, 2, 8, 0, 5, 0, 0, 0, 0) (yX0_act, cX0_act, none, RX0) 0 5072 1010 5071 87 = true := zheadB_of rfl zhc5
theorem zm5 : zOK 5 (zxi5, 2, 8, 0, 5, 0, 0, 0, 0) (yX0_act, cX0_act, none, RX0) := zOK_of2 (len := 248) zh5 zr5 (fun pc h => zguard h)
def zps6 : List (Nat × Nat) := [(4, 2097), (11, 2095)]
set_option maxRecDepth 100000 in
theorem zr6 : zrowsB (yX0_wipe, cX0_wipe, none, RX0) zps6 zxi6 29 = true := by decide +kernel
set_option maxRecDepth 100000 in
theorem zhc6 : zheadC 6 (zxi6, 2, 3, 0, 6, 0, 0, 0, 0) (yX0_wipe, cX0_wipe, none, RX0) 0 1010 5076 88 = true := by decide +kernel
set_option maxRecDepth 100000 in
theorem zh6 : zheadB 6 (zxi6, 2, 3, 0, 6, 0, 0, 0, 0) (yX0_wipe, cX0_wipe, none, RX0) 0 5077 1010 5076 88 = true := zheadB_of rfl zhc6
theorem zm6 : zOK 6 (zxi6, 2, 3, 0, 6, 0, 0, 0, 0) (yX0_wipe, cX0_wipe, none, RX0) := zOK_of2 (len := 29) zh6 zr6 (fun pc h => zguard h)
def zps7 : List (Nat × Nat) := [(13, 2097), (34, 2095), (46, 2095), (63, 2095), (73, 5082), (92, 2095), (105, 2095)]
set_option maxRecDepth 100000 in
theorem zr7 : zrowsB (yX0_addTo, cX0_addTo, none, RX0) zps7 zxi7 121 = true := by decide +kernel
set_option maxRecDepth 100000 in
theorem zhc7 : zheadC 7 (zxi7, 4, 12, 0, 7, 0, 0, 0, 0) (yX0_addTo, cX0_addTo, none, RX0) 0 1010 5080 89 = true := by decide +kernel
set_option maxRecDepth 100000 in
theorem zh7 : zheadB 7 (zxi7, 4, 12, 0, 7, 0, 0, 0, 0) (yX0_addTo, cX0_addTo, none, RX0) 0 5081 1010 5080 89 = true := zheadB_of rfl zhc7
theorem zm7 : zOK 7 (zxi7, 4, 12, 0, 7, 0, 0, 0, 0) (yX0_addTo, cX0_addTo, none, RX0) := zOK_of2 (len := 121) zh7 zr7 (fun pc h => zguard h)
def zps8 : List (Nat × Nat) := [(2, 5087), (12, 5078)]
set_option maxRecDepth 100000 in
theorem zr8 : zrowsB (yX0_addUpper, cX0_addUpper, none, RX0) zps8 zxi8 16 = true := by decide +kernel
set_option maxRecDepth 100000 in
theorem zhc8 : zheadC 8 (zxi8, 4, 4, 0, 8, 0, 0, 0, 0) (yX0_addUpper, cX0_addUpper, none, RX0) 0 1010 5093 92 = true := by decide +kernel
set_option maxRecDepth 100000 in
theorem zh8 : zheadB 8 (zxi8, 4, 4, 0, 8, 0, 0, 0, 0) (yX0_addUpper, cX0_addUpper, none, RX0) 0 5094 1010 5093 92 = true := zheadB_of rfl zhc8
theorem zm8 : zOK 8 (zxi8, 4, 4, 0, 8, 0, 0, 0, 0) (yX0_addUpper, cX0_addUpper, none, RX0) := zOK_of2 (len := 16) zh8 zr8 (fun pc h => zguard h)
def zps9 : List (Nat × Nat) := [(2, 5087), (12, 5078)]
set_option maxRecDepth 100000 in
theorem zr9 : zrowsB (yX0_addLower, cX0_addLower, none, RX0) zps9 zxi9 16 = true := by decide +kernel
set_option maxRecDepth 100000 in
theorem zhc9 : zheadC 9 (zxi9, 4, 4, 0, 9, 0, 0, 0, 0) (yX0_addLower, cX0_addLower, none, RX0) 0 1010 5085 90 = true := by decide +kernel
set_option maxRecDepth 100000 in
theorem zh9 : zheadB 9 (zxi9, 4, 4, 0, 9, 0, 0, 0, 0) (yX0_addLower, cX0_addLower, none, RX0) 0 5086 1010 5085 90 = true := zheadB_of rfl zhc9
theorem zm9 : zOK 9 (zxi9, 4, 4, 0, 9, 0, 0, 0, 0) (yX0_addLower, cX0_addLower, none, RX0) := zOK_of2 (len := 16) zh9 zr9 (fun pc h => zguard h)
def zps10 : List (Nat × Nat) := [(1, 2095), (9, 2097)]
set_option maxRecDepth 100000 in
theorem zr10 : zrowsB (yX0_isBelowZero, cX0_isBelowZero, some .boolean, RX0) zps10 zxi10 27 = true := by decide +kernel
set_option maxRecDepth 100000 in
theorem zhc10 : zheadC 10 (zxi10, 2, 2, 0, 10, 0, 0, 2, 0) (yX0_isBelowZero, cX0_isBelowZero, some .boolean, RX0) 0 1010 5089 91 = true := by decide +kernel
set_option maxRecDepth 100000 in
theorem zh10 : zheadB 10 (zxi10, 2, 2, 0, 10, 0, 0, 2, 0) (yX0_isBelowZero, cX0_isBelowZero, some .boolean, RX0) 0 5090 1010 5089 91 = true := zheadB_of rfl zhc10
theorem zm10 : zOK 10 (zxi10, 2, 2, 0, 10, 0, 0, 2, 0) (yX0_isBelowZero, cX0_isBelowZero, some .boolean, RX0) := zOK_of2 (len := 27) zh10 zr10 (fun pc h => zguard h)
def zps11 : List (Nat × Nat) := [(4, 2097), (11, 2095), (24, 2095), (34, 2095), (46, 2095)]
set_option maxRecDepth 100000 in
theorem zr11 : zrowsB (yX0_swap, cX0_swap, none, RX0) zps11 zxi11 65 = true := by decide +kernel
set_option maxRecDepth 100000 in
theorem zhc11 : zheadC 11 (zxi11, 3, 6, 0, 11, 0, 0, 0, 0) (yX0_swap, cX0_swap, none, RX0) 0 1010 5097 93 = true := by decide +kernel
set_option maxRecDepth 100000 in
theorem zh11 : zheadB 11 (zxi11, 3, 6, 0, 11, 0, 0, 0, 0) (yX0_swap, cX0_swap, none, RX0) 0 5098 1010 5097 93 = true := zheadB_of rfl zhc11
theorem zm11 : zOK 11 (zxi11, 3, 6, 0, 11, 0, 0, 0, 0) (yX0_swap, cX0_swap, none, RX0) := zOK_of2 (len := 65) zh11 zr11 (fun pc h => zguard h)
def zps12 : List (Nat × Nat) := [(1, 2095), (9, 2097), (16, 5103), (19, 5106)]
set_option maxRecDepth 100000 in
theorem zr12 : zrowsB (yX0_isBig, cX0_isBig, some .boolean, RX0) zps12 zxi12 32 = true := by decide +kernel
set_option maxRecDepth 100000 in
theorem zhc12 : zheadC 12 (zxi12, 2, 2, 0, 12, 0, 0, 2, 0) (yX0_isBig, cX0_isBig, some .boolean, RX0) 0 1010 5101 94 = true := by decide +kernel
set_option maxRecDepth 100000 in
theorem zh12 : zheadB 12 (zxi12, 2, 2, 0, 12, 0, 0, 2, 0) (yX0_isBig, cX0_isBig, some .boolean, RX0) 0 5102 1010 5101 94 = true := zheadB_of rfl zhc12
theorem zm12 : zOK 12 (zxi12, 2, 2, 0, 12, 0, 0, 2, 0) (yX0_isBig, cX0_isBig, some .boolean, RX0) := zOK_of2 (len := 32) zh12 zr12 (fun pc h => zguard h)
def zps13 : List (Nat × Nat) := [(1, 2097), (15, 2096), (27, 2097), (35, 2095), (42, 2095), (52, 2095), (58, 5082), (71, 2097), (76, 2097)]
set_option maxRecDepth 100000 in
theorem zr13 : zrowsB (yX0_widen, cX0_widen, none, RX0) zps13 zxi13 80 = true := by decide +kernel
set_option maxRecDepth 100000 in
theorem zhc13 : zheadC 13 (zxi13, 1, 3, 0, 13, 0, 0, 0, 0) (yX0_widen, cX0_widen, none, RX0) 0 1010 5109 95 = true := by decide +kernel
set_option maxRecDepth 100000 in
theorem zh13 : zheadB 13 (zxi13, 1, 3, 0, 13, 0, 0, 0, 0) (yX0_widen, cX0_widen, none, RX0) 0 5110 1010 5109 95 = true := zheadB_of rfl zhc13
theorem zm13 : zOK 13 (zxi13, 1, 3, 0, 13, 0, 0, 0, 0) (yX0_widen, cX0_widen, none, RX0) := zOK_of2 (len := 80) zh13 zr13 (fun pc h => zguard h)
def zps14 : List (Nat × Nat) := [(9, 2097), (13, 2097), (20, 5107), (38, 2097), (42, 2097), (49, 5107), (63, 2096), (74, 2097), (81, 2095), (92, 2095)]
set_option maxRecDepth 100000 in
theorem zr14 : zrowsB (yX0_matches, cX0_matches, some .boolean, RX0) zps14 zxi14 122 = true := by decide +kernel
set_option maxRecDepth 100000 in
theorem zhc14 : zheadC 14 (zxi14, 2, 4, 0, 14, 0, 0, 2, 0) (yX0_matches, cX0_matches, some .boolean, RX0) 0 1010 5113 96 = true := by decide +kernel
set_option maxRecDepth 100000 in
theorem zh14 : zheadB 14 (zxi14, 2, 4, 0, 14, 0, 0, 2, 0) (yX0_matches, cX0_matches, some .boolean, RX0) 0 5114 1010 5113 96 = true := zheadB_of rfl zhc14
theorem zm14 : zOK 14 (zxi14, 2, 4, 0, 14, 0, 0, 2, 0) (yX0_matches, cX0_matches, some .boolean, RX0) := zOK_of2 (len := 122) zh14 zr14 (fun pc h => zguard h)
def zps15 : List (Nat × Nat) := [(1, 1037), (9, 1055), (17, 1058), (25, 1062), (33, 1064), (41, 1066), (49, 1069), (57, 1072)]
set_option maxRecDepth 100000 in
theorem zr15 : zrowsB (yX1_init, cX1_init, none, RX1) zps15 zxi15 61 = true := by decide +kernel
set_option maxRecDepth 100000 in
theorem zhc15 : zheadC 15 (zxi15, 1, 1, 1, 15, 7, 462, 0, 2) (yX1_init, cX1_init, none, RX1) 1 1003 1035 0 = true := by decide +kernel
set_option maxRecDepth 100000 in
theorem zh15 : zheadB 15 (zxi15, 1, 1, 1, 15, 7, 462, 0, 2) (yX1_init, cX1_init, none, RX1) 1 1036 1003 1035 0 = true := zheadB_of rfl zhc15
theorem zm15 : zOK 15 (zxi15, 1, 1, 1, 15, 7, 462, 0, 2) (yX1_init, cX1_init, none, RX1) := zOK_of2 (len := 61) zh15 zr15 (fun pc h => zguard h)
def zps16 : List (Nat × Nat) := [(2, 1038), (7, 1041), (13, 1038), (18, 1041), (22, 1045), (27, 1049), (34, 1038), (46, 1041), (56, 2160), (75, 1038), (89, 1041), (101, 2164), (111, 2164), (114, 2168), (135, 1038), (147, 1041), (159, 2164), (169, 2164), (172, 2168)]
set_option maxRecDepth 100000 in
theorem zr16 : zrowsB (yX1_build, cX1_build, none, RX1) zps16 zxi16 188 = true := by decide +kernel
set_option maxRecDepth 100000 in
theorem zhc16 : zheadC 16 (zxi16, 3, 5, 1, 16, 0, 0, 0, 0) (yX1_build, cX1_build, none, RX1) 0 1003 2158 1 = true := by decide +kernel
set_option maxRecDepth 100000 in
theorem zh16 : zheadB 16 (zxi16, 3, 5, 1, 16, 0, 0, 0, 0) (yX1_build, cX1_build, none, RX1) 0 2159 1003 2158 1 = true := zheadB_of rfl zhc16
theorem zm16 : zOK 16 (zxi16, 3, 5, 1, 16, 0, 0, 0, 0) (yX1_build, cX1_build, none, RX1) := zOK_of2 (len := 188) zh16 zr16 (fun pc h => zguard h)
def zps17 : List (Nat × Nat) := [(3, 1041)]
set_option maxRecDepth 100000 in
theorem zr17 : zrowsB (yX1_slotOf, cX1_slotOf, some .int, RX1) zps17 zxi17 13 = true := by decide +kernel
set_option maxRecDepth 100000 in
theorem zhc17 : zheadC 17 (zxi17, 4, 4, 1, 17, 0, 0, 1, 0) (yX1_slotOf, cX1_slotOf, some .int, RX1) 0 1003 2166 3 = true := by decide +kernel
set_option maxRecDepth 100000 in
theorem zh17 : zheadB 17 (zxi17, 4, 4, 1, 17, 0, 0, 1, 0) (yX1_slotOf, cX1_slotOf, some .int, RX1) 0 2167 1003 2166 3 = true := zheadB_of rfl zhc17
theorem zm17 : zOK 17 (zxi17, 4, 4, 1, 17, 0, 0, 1, 0) (yX1_slotOf, cX1_slotOf, some .int, RX1) := zOK_of2 (len := 13) zh17 zr17 (fun pc h => zguard h)
def zps18 : List (Nat × Nat) := [(28, 2164), (34, 1055), (48, 2164), (53, 1058), (61, 1062), (69, 1064), (103, 1066)]
set_option maxRecDepth 100000 in
theorem zr18 : zrowsB (yX1_buildWheel, cX1_buildWheel, none, RX1) zps18 zxi18 142 = true := by decide +kernel
set_option maxRecDepth 100000 in
theorem zhc18 : zheadC 18 (zxi18, 3, 6, 1, 18, 0, 0, 0, 0) (yX1_buildWheel, cX1_buildWheel, none, RX1) 0 1003 2162 2 = true := by decide +kernel
set_option maxRecDepth 100000 in
theorem zh18 : zheadB 18 (zxi18, 3, 6, 1, 18, 0, 0, 0, 0) (yX1_buildWheel, cX1_buildWheel, none, RX1) 0 2163 1003 2162 2 = true := zheadB_of rfl zhc18
theorem zm18 : zOK 18 (zxi18, 3, 6, 1, 18, 0, 0, 0, 0) (yX1_buildWheel, cX1_buildWheel, none, RX1) := zOK_of2 (len := 142) zh18 zr18 (fun pc h => zguard h)
def zps19 : List (Nat × Nat) := [(1, 1069), (5, 1049), (11, 1072), (15, 1049), (21, 1058), (28, 1058), (35, 1062), (40, 1049), (45, 1062), (50, 1049), (56, 1049), (61, 1049)]
set_option maxRecDepth 100000 in
theorem zr19 : zrowsB (yX1_join, cX1_join, none, RX1) zps19 zxi19 65 = true := by decide +kernel
set_option maxRecDepth 100000 in
theorem zhc19 : zheadC 19 (zxi19, 3, 3, 1, 19, 0, 0, 0, 0) (yX1_join, cX1_join, none, RX1) 0 1003 2170 4 = true := by decide +kernel
set_option maxRecDepth 100000 in
theorem zh19 : zheadB 19 (zxi19, 3, 3, 1, 19, 0, 0, 0, 0) (yX1_join, cX1_join, none, RX1) 0 2171 1003 2170 4 = true := zheadB_of rfl zhc19
theorem zm19 : zOK 19 (zxi19, 3, 3, 1, 19, 0, 0, 0, 0) (yX1_join, cX1_join, none, RX1) := zOK_of2 (len := 65) zh19 zr19 (fun pc h => zguard h)
def zps20 : List (Nat × Nat) := [(3, 1064), (10, 1066)]
set_option maxRecDepth 100000 in
theorem zr20 : zrowsB (yX1_rank, cX1_rank, some .int, RX1) zps20 zxi20 17 = true := by decide +kernel
set_option maxRecDepth 100000 in
theorem zhc20 : zheadC 20 (zxi20, 2, 2, 1, 20, 0, 0, 1, 0) (yX1_rank, cX1_rank, some .int, RX1) 0 1003 2182 7 = true := by decide +kernel
set_option maxRecDepth 100000 in
theorem zh20 : zheadB 20 (zxi20, 2, 2, 1, 20, 0, 0, 1, 0) (yX1_rank, cX1_rank, some .int, RX1) 0 2183 1003 2182 7 = true := zheadB_of rfl zhc20
theorem zm20 : zOK 20 (zxi20, 2, 2, 1, 20, 0, 0, 1, 0) (yX1_rank, cX1_rank, some .int, RX1) := zOK_of2 (len := 17) zh20 zr20 (fun pc h => zguard h)
def zps21 : List (Nat × Nat) := [(1, 1055), (8, 1062), (32, 1058)]
set_option maxRecDepth 100000 in
theorem zr21 : zrowsB (yX1_moved, cX1_moved, some .int, RX1) zps21 zxi21 42 = true := by decide +kernel
set_option maxRecDepth 100000 in
theorem zhc21 : zheadC 21 (zxi21, 3, 5, 1, 21, 0, 0, 1, 0) (yX1_moved, cX1_moved, some .int, RX1) 0 1003 4147 62 = true := by decide +kernel
set_option maxRecDepth 100000 in
theorem zh21 : zheadB 21 (zxi21, 3, 5, 1, 21, 0, 0, 1, 0) (yX1_moved, cX1_moved, some .int, RX1) 0 4148 1003 4147 62 = true := zheadB_of rfl zhc21
theorem zm21 : zOK 21 (zxi21, 3, 5, 1, 21, 0, 0, 1, 0) (yX1_moved, cX1_moved, some .int, RX1) := zOK_of2 (len := 42) zh21 zr21 (fun pc h => zguard h)
def zps22 : List (Nat × Nat) := [(1, 2130), (10, 2135), (18, 2136)]
set_option maxRecDepth 100000 in
theorem zr22 : zrowsB (yX2_init, cX2_init, none, RX2) zps22 zxi22 22 = true := by decide +kernel
set_option maxRecDepth 100000 in
theorem zhc22 : zheadC 22 (zxi22, 1, 1, 2, 22, 2, 1872, 0, 3) (yX2_init, cX2_init, none, RX2) 1 1012 2128 0 = true := by decide +kernel
set_option maxRecDepth 100000 in
theorem zh22 : zheadB 22 (zxi22, 1, 1, 2, 22, 2, 1872, 0, 3) (yX2_init, cX2_init, none, RX2) 1 2129 1012 2128 0 = true := zheadB_of rfl zhc22
theorem zm22 : zOK 22 (zxi22, 1, 1, 2, 22, 2, 1872, 0, 3) (yX2_init, cX2_init, none, RX2) := zOK_of2 (len := 22) zh22 zr22 (fun pc h => zguard h)
def zps23 : List (Nat × Nat) := [(2, 2136), (5, 6002), (10, 1124), (13, 1048), (21, 2133), (26, 2131), (35, 6006), (44, 6029), (50, 2131), (70, 6006), (80, 6029), (90, 2133), (99, 2131), (118, 6033)]
set_option maxRecDepth 100000 in
theorem zr23 : zrowsB (yX2_work, cX2_work, none, RX2) zps23 zxi23 128 = true := by decide +kernel
set_option maxRecDepth 100000 in
theorem zhc23 : zheadC 23 (zxi23, 4, 6, 2, 23, 0, 0, 0, 0) (yX2_work, cX2_work, none, RX2) 0 1012 6000 117 = true := by decide +kernel
set_option maxRecDepth 100000 in
theorem zh23 : zheadB 23 (zxi23, 4, 6, 2, 23, 0, 0, 0, 0) (yX2_work, cX2_work, none, RX2) 0 6001 1012 6000 117 = true := zheadB_of rfl zhc23
theorem zm23 : zOK 23 (zxi23, 4, 6, 2, 23, 0, 0, 0, 0) (yX2_work, cX2_work, none, RX2) := zOK_of2 (len := 128) zh23 zr23 (fun pc h => zguard h)
def zps24 : List (Nat × Nat) := [(7, 6006), (15, 2137), (21, 2138), (40, 1124), (43, 1048), (88, 6006), (99, 6029)]
set_option maxRecDepth 100000 in
theorem zr24 : zrowsB (yX2_workBehind, cX2_workBehind, none, RX2) zps24 zxi24 109 = true := by decide +kernel
set_option maxRecDepth 100000 in
theorem zhc24 : zheadC 24 (zxi24, 5, 9, 2, 24, 0, 0, 0, 0) (yX2_workBehind, cX2_workBehind, none, RX2) 0 1012 6035 123 = true := by decide +kernel
set_option maxRecDepth 100000 in
theorem zh24 : zheadB 24 (zxi24, 5, 9, 2, 24, 0, 0, 0, 0) (yX2_workBehind, cX2_workBehind, none, RX2) 0 6036 1012 6035 123 = true := zheadB_of rfl zhc24
theorem zm24 : zOK 24 (zxi24, 5, 9, 2, 24, 0, 0, 0, 0) (yX2_workBehind, cX2_workBehind, none, RX2) := zOK_of2 (len := 109) zh24 zr24 (fun pc h => zguard h)
def zps25 : List (Nat × Nat) := [(1, 2133), (5, 2135), (13, 2135), (17, 2133), (29, 2133), (34, 2133)]
set_option maxRecDepth 100000 in
theorem zr25 : zrowsB (yX2_keep, cX2_keep, none, RX2) zps25 zxi25 38 = true := by decide +kernel
set_option maxRecDepth 100000 in
theorem zhc25 : zheadC 25 (zxi25, 3, 3, 2, 25, 0, 0, 0, 0) (yX2_keep, cX2_keep, none, RX2) 0 1012 6031 122 = true := by decide +kernel
set_option maxRecDepth 100000 in
theorem zh25 : zheadB 25 (zxi25, 3, 3, 2, 25, 0, 0, 0, 0) (yX2_keep, cX2_keep, none, RX2) 0 6032 1012 6031 122 = true := zheadB_of rfl zhc25
theorem zm25 : zOK 25 (zxi25, 3, 3, 2, 25, 0, 0, 0, 0) (yX2_keep, cX2_keep, none, RX2) := zOK_of2 (len := 38) zh25 zr25 (fun pc h => zguard h)
def zps26 : List (Nat × Nat) := [(5, 2135), (17, 2135)]
set_option maxRecDepth 100000 in
theorem zr26 : zrowsB (yX2_member, cX2_member, some .int, RX2) zps26 zxi26 26 = true := by decide +kernel
set_option maxRecDepth 100000 in
theorem zhc26 : zheadC 26 (zxi26, 3, 3, 2, 26, 0, 0, 1, 0) (yX2_member, cX2_member, some .int, RX2) 0 1012 6043 124 = true := by decide +kernel
set_option maxRecDepth 100000 in
theorem zh26 : zheadB 26 (zxi26, 3, 3, 2, 26, 0, 0, 1, 0) (yX2_member, cX2_member, some .int, RX2) 0 6044 1012 6043 124 = true := zheadB_of rfl zhc26
theorem zm26 : zOK 26 (zxi26, 3, 3, 2, 26, 0, 0, 1, 0) (yX2_member, cX2_member, some .int, RX2) := zOK_of2 (len := 26) zh26 zr26 (fun pc h => zguard h)
def zps27 : List (Nat × Nat) := [(2, 6010), (7, 6010), (15, 6013), (20, 6013), (27, 6016), (34, 2137), (39, 2138), (44, 6021), (58, 2136), (62, 2018), (65, 6022), (81, 6023), (89, 1124), (94, 6027), (104, 2137), (108, 2031), (115, 2137), (120, 2138), (124, 2031), (133, 2138), (137, 6028), (148, 6023)]
set_option maxRecDepth 100000 in
theorem zr27 : zrowsB (yX2_explains, cX2_explains, some .boolean, RX2) zps27 zxi27 152 = true := by decide +kernel
set_option maxRecDepth 100000 in
theorem zhc27 : zheadC 27 (zxi27, 6, 11, 2, 27, 0, 0, 2, 0) (yX2_explains, cX2_explains, some .boolean, RX2) 0 1012 6008 119 = true := by decide +kernel
set_option maxRecDepth 100000 in
theorem zh27 : zheadB 27 (zxi27, 6, 11, 2, 27, 0, 0, 2, 0) (yX2_explains, cX2_explains, some .boolean, RX2) 0 6009 1012 6008 119 = true := zheadB_of rfl zhc27
theorem zm27 : zOK 27 (zxi27, 6, 11, 2, 27, 0, 0, 2, 0) (yX2_explains, cX2_explains, some .boolean, RX2) := zOK_of2 (len := 152) zh27 zr27 (fun pc h => zguard h)
def zps28 : List (Nat × Nat) := []
set_option maxRecDepth 100000 in
theorem zr28 : zrowsB (yX2_heldOpen, cX2_heldOpen, some .int, RX2) zps28 zxi28 21 = true := by decide +kernel
set_option maxRecDepth 100000 in
theorem zhc28 : zheadC 28 (zxi28, 1, 1, 2, 28, 0, 0, 1, 0) (yX2_heldOpen, cX2_heldOpen, some .int, RX2) 2 1012 6011 0 = true := by decide +kernel
set_option maxRecDepth 100000 in
theorem zh28 : zheadB 28 (zxi28, 1, 1, 2, 28, 0, 0, 1, 0) (yX2_heldOpen, cX2_heldOpen, some .int, RX2) 2 6012 1012 6011 0 = true := zheadB_of rfl zhc28
theorem zm28 : zOK 28 (zxi28, 1, 1, 2, 28, 0, 0, 1, 0) (yX2_heldOpen, cX2_heldOpen, some .int, RX2) := zOK_of2 (len := 21) zh28 zr28 (fun pc h => zguard h)
def zps29 : List (Nat × Nat) := []
set_option maxRecDepth 100000 in
theorem zr29 : zrowsB (yX2_heldShut, cX2_heldShut, some .int, RX2) zps29 zxi29 20 = true := by decide +kernel
set_option maxRecDepth 100000 in
theorem zhc29 : zheadC 29 (zxi29, 1, 1, 2, 29, 0, 0, 1, 0) (yX2_heldShut, cX2_heldShut, some .int, RX2) 2 1012 6014 0 = true := by decide +kernel
set_option maxRecDepth 100000 in
theorem zh29 : zheadB 29 (zxi29, 1, 1, 2, 29, 0, 0, 1, 0) (yX2_heldShut, cX2_heldShut, some .int, RX2) 2 6015 1012 6014 0 = true := zheadB_of rfl zhc29
theorem zm29 : zOK 29 (zxi29, 1, 1, 2, 29, 0, 0, 1, 0) (yX2_heldShut, cX2_heldShut, some .int, RX2) := zOK_of2 (len := 20) zh29 zr29 (fun pc h => zguard h)
def zps30 : List (Nat × Nat) := [(1, 1031), (5, 1032), (9, 1034), (12, 1123), (20, 1129), (28, 1133), (36, 1137), (44, 1141), (52, 1150), (60, 1154), (64, 1099), (70, 1101), (73, 1162)]
set_option maxRecDepth 100000 in
theorem zr30 : zrowsB (yX3_init, cX3_init, none, RX3) zps30 zxi30 77 = true := by decide +kernel
set_option maxRecDepth 100000 in
theorem zhc30 : zheadC 30 (zxi30, 1, 1, 3, 30, 16, 915, 0, 4) (yX3_init, cX3_init, none, RX3) 1 1002 1029 0 = true := by decide +kernel
set_option maxRecDepth 100000 in
theorem zh30 : zheadB 30 (zxi30, 1, 1, 3, 30, 16, 915, 0, 4) (yX3_init, cX3_init, none, RX3) 1 1030 1002 1029 0 = true := zheadB_of rfl zhc30
theorem zm30 : zOK 30 (zxi30, 1, 1, 3, 30, 16, 915, 0, 4) (yX3_init, cX3_init, none, RX3) := zOK_of2 (len := 77) zh30 zr30 (fun pc h => zguard h)
def zps31 : List (Nat × Nat) := [(1, 1123), (6, 2156), (18, 1129), (25, 1133), (32, 1137), (39, 1141), (53, 1146), (58, 1158), (62, 1162), (66, 1114)]
set_option maxRecDepth 100000 in
theorem zr31 : zrowsB (yX3_clear, cX3_clear, none, RX3) zps31 zxi31 70 = true := by decide +kernel
set_option maxRecDepth 100000 in
theorem zhc31 : zheadC 31 (zxi31, 3, 4, 3, 31, 0, 0, 0, 0) (yX3_clear, cX3_clear, none, RX3) 0 1002 2154 0 = true := by decide +kernel
set_option maxRecDepth 100000 in
theorem zh31 : zheadB 31 (zxi31, 3, 4, 3, 31, 0, 0, 0, 0) (yX3_clear, cX3_clear, none, RX3) 0 2155 1002 2154 0 = true := zheadB_of rfl zhc31
theorem zm31 : zOK 31 (zxi31, 3, 4, 3, 31, 0, 0, 0, 0) (yX3_clear, cX3_clear, none, RX3) := zOK_of2 (len := 70) zh31 zr31 (fun pc h => zguard h)
def zps32 : List (Nat × Nat) := [(1, 1150), (5, 1146), (11, 1154), (15, 1146), (22, 1146), (27, 1146)]
set_option maxRecDepth 100000 in
theorem zr32 : zrowsB (yX3_addBobbin, cX3_addBobbin, none, RX3) zps32 zxi32 31 = true := by decide +kernel
set_option maxRecDepth 100000 in
theorem zhc32 : zheadC 32 (zxi32, 2, 2, 3, 32, 0, 0, 0, 0) (yX3_addBobbin, cX3_addBobbin, none, RX3) 0 1002 3117 24 = true := by decide +kernel
set_option maxRecDepth 100000 in
theorem zh32 : zheadB 32 (zxi32, 2, 2, 3, 32, 0, 0, 0, 0) (yX3_addBobbin, cX3_addBobbin, none, RX3) 0 3118 1002 3117 24 = true := zheadB_of rfl zhc32
theorem zm32 : zOK 32 (zxi32, 2, 2, 3, 32, 0, 0, 0, 0) (yX3_addBobbin, cX3_addBobbin, none, RX3) := zOK_of2 (len := 31) zh32 zr32 (fun pc h => zguard h)
def zps33 : List (Nat × Nat) := [(2, 1146), (7, 1146), (14, 1146), (21, 1150), (26, 1150), (35, 1154), (40, 1154)]
set_option maxRecDepth 100000 in
theorem zr33 : zrowsB (yX3_dropBobbin, cX3_dropBobbin, none, RX3) zps33 zxi33 55 = true := by decide +kernel
set_option maxRecDepth 100000 in
theorem zhc33 : zheadC 33 (zxi33, 2, 3, 3, 33, 0, 0, 0, 0) (yX3_dropBobbin, cX3_dropBobbin, none, RX3) 0 1002 4008 41 = true := by decide +kernel
set_option maxRecDepth 100000 in
theorem zh33 : zheadB 33 (zxi33, 2, 3, 3, 33, 0, 0, 0, 0) (yX3_dropBobbin, cX3_dropBobbin, none, RX3) 0 4009 1002 4008 41 = true := zheadB_of rfl zhc33
theorem zm33 : zOK 33 (zxi33, 2, 3, 3, 33, 0, 0, 0, 0) (yX3_dropBobbin, cX3_dropBobbin, none, RX3) := zOK_of2 (len := 55) zh33 zr33 (fun pc h => zguard h)
def zps34 : List (Nat × Nat) := [(4, 1146), (11, 1150), (21, 1123), (24, 1059), (30, 1150)]
set_option maxRecDepth 100000 in
theorem zr34 : zrowsB (yX3_hasStartAt, cX3_hasStartAt, some .boolean, RX3) zps34 zxi34 48 = true := by decide +kernel
set_option maxRecDepth 100000 in
theorem zhc34 : zheadC 34 (zxi34, 2, 3, 3, 34, 0, 0, 2, 0) (yX3_hasStartAt, cX3_hasStartAt, some .boolean, RX3) 0 1002 3113 23 = true := by decide +kernel
set_option maxRecDepth 100000 in
theorem zh34 : zheadB 34 (zxi34, 2, 3, 3, 34, 0, 0, 2, 0) (yX3_hasStartAt, cX3_hasStartAt, some .boolean, RX3) 0 3114 1002 3113 23 = true := zheadB_of rfl zhc34
theorem zm34 : zOK 34 (zxi34, 2, 3, 3, 34, 0, 0, 2, 0) (yX3_hasStartAt, cX3_hasStartAt, some .boolean, RX3) := zOK_of2 (len := 48) zh34 zr34 (fun pc h => zguard h)
def zps35 : List (Nat × Nat) := [(6, 1123), (9, 1051), (16, 1141)]
set_option maxRecDepth 100000 in
theorem zr35 : zrowsB (yX3_countFree, cX3_countFree, some .int, RX3) zps35 zxi35 35 = true := by decide +kernel
set_option maxRecDepth 100000 in
theorem zhc35 : zheadC 35 (zxi35, 1, 3, 3, 35, 0, 0, 1, 0) (yX3_countFree, cX3_countFree, some .int, RX3) 0 1002 3133 27 = true := by decide +kernel
set_option maxRecDepth 100000 in
theorem zh35 : zheadB 35 (zxi35, 1, 3, 3, 35, 0, 0, 1, 0) (yX3_countFree, cX3_countFree, some .int, RX3) 0 3134 1002 3133 27 = true := zheadB_of rfl zhc35
theorem zm35 : zOK 35 (zxi35, 1, 3, 3, 35, 0, 0, 1, 0) (yX3_countFree, cX3_countFree, some .int, RX3) := zOK_of2 (len := 35) zh35 zr35 (fun pc h => zguard h)
def zps36 : List (Nat × Nat) := [(6, 1123), (9, 1051), (16, 1137)]
set_option maxRecDepth 100000 in
theorem zr36 : zrowsB (yX3_countStuck, cX3_countStuck, some .int, RX3) zps36 zxi36 35 = true := by decide +kernel
set_option maxRecDepth 100000 in
theorem zhc36 : zheadC 36 (zxi36, 1, 3, 3, 36, 0, 0, 1, 0) (yX3_countStuck, cX3_countStuck, some .int, RX3) 0 1002 3164 32 = true := by decide +kernel
set_option maxRecDepth 100000 in
theorem zh36 : zheadB 36 (zxi36, 1, 3, 3, 36, 0, 0, 1, 0) (yX3_countStuck, cX3_countStuck, some .int, RX3) 0 3165 1002 3164 32 = true := zheadB_of rfl zhc36
theorem zm36 : zOK 36 (zxi36, 1, 3, 3, 36, 0, 0, 1, 0) (yX3_countStuck, cX3_countStuck, some .int, RX3) := zOK_of2 (len := 35) zh36 zr36 (fun pc h => zguard h)
def zps37 : List (Nat × Nat) := [(6, 1123), (9, 1051), (17, 1133), (23, 3170)]
set_option maxRecDepth 100000 in
theorem zr37 : zrowsB (yX3_period, cX3_period, some .int, RX3) zps37 zxi37 36 = true := by decide +kernel
set_option maxRecDepth 100000 in
theorem zhc37 : zheadC 37 (zxi37, 1, 4, 3, 37, 0, 0, 1, 0) (yX3_period, cX3_period, some .int, RX3) 0 1002 3168 33 = true := by decide +kernel
set_option maxRecDepth 100000 in
theorem zh37 : zheadB 37 (zxi37, 1, 4, 3, 37, 0, 0, 1, 0) (yX3_period, cX3_period, some .int, RX3) 0 3169 1002 3168 33 = true := zheadB_of rfl zhc37
theorem zm37 : zOK 37 (zxi37, 1, 4, 3, 37, 0, 0, 1, 0) (yX3_period, cX3_period, some .int, RX3) := zOK_of2 (len := 36) zh37 zr37 (fun pc h => zguard h)
def zps38 : List (Nat × Nat) := [(1, 1133), (12, 1129), (19, 3189)]
set_option maxRecDepth 100000 in
theorem zr38 : zrowsB (yX3_tellsOpen, cX3_tellsOpen, some .boolean, RX3) zps38 zxi38 35 = true := by decide +kernel
set_option maxRecDepth 100000 in
theorem zhc38 : zheadC 38 (zxi38, 3, 4, 3, 38, 0, 0, 2, 0) (yX3_tellsOpen, cX3_tellsOpen, some .boolean, RX3) 0 1002 3187 36 = true := by decide +kernel
set_option maxRecDepth 100000 in
theorem zh38 : zheadB 38 (zxi38, 3, 4, 3, 38, 0, 0, 2, 0) (yX3_tellsOpen, cX3_tellsOpen, some .boolean, RX3) 0 3188 1002 3187 36 = true := zheadB_of rfl zhc38
theorem zm38 : zOK 38 (zxi38, 3, 4, 3, 38, 0, 0, 2, 0) (yX3_tellsOpen, cX3_tellsOpen, some .boolean, RX3) := zOK_of2 (len := 35) zh38 zr38 (fun pc h => zguard h)
def zps39 : List (Nat × Nat) := [(1, 1137), (11, 1137), (23, 3185)]
set_option maxRecDepth 100000 in
theorem zr39 : zrowsB (yX3_opens, cX3_opens, some .boolean, RX3) zps39 zxi39 35 = true := by decide +kernel
set_option maxRecDepth 100000 in
theorem zhc39 : zheadC 39 (zxi39, 3, 3, 3, 39, 0, 0, 2, 0) (yX3_opens, cX3_opens, some .boolean, RX3) 0 1002 3183 35 = true := by decide +kernel
set_option maxRecDepth 100000 in
theorem zh39 : zheadB 39 (zxi39, 3, 3, 3, 39, 0, 0, 2, 0) (yX3_opens, cX3_opens, some .boolean, RX3) 0 3184 1002 3183 35 = true := zheadB_of rfl zhc39
theorem zm39 : zOK 39 (zxi39, 3, 3, 3, 39, 0, 0, 2, 0) (yX3_opens, cX3_opens, some .boolean, RX3) := zOK_of2 (len := 35) zh39 zr39 (fun pc h => zguard h)
def zps40 : List (Nat × Nat) := [(16, 1123), (19, 1051), (29, 4026)]
set_option maxRecDepth 100000 in
theorem zr40 : zrowsB (yX3_fillOpen, cX3_fillOpen, none, RX3) zps40 zxi40 59 = true := by decide +kernel
set_option maxRecDepth 100000 in
theorem zhc40 : zheadC 40 (zxi40, 2, 5, 3, 40, 0, 0, 0, 0) (yX3_fillOpen, cX3_fillOpen, none, RX3) 0 1002 4024 43 = true := by decide +kernel
set_option maxRecDepth 100000 in
theorem zh40 : zheadB 40 (zxi40, 2, 5, 3, 40, 0, 0, 0, 0) (yX3_fillOpen, cX3_fillOpen, none, RX3) 0 4025 1002 4024 43 = true := zheadB_of rfl zhc40
theorem zm40 : zOK 40 (zxi40, 2, 5, 3, 40, 0, 0, 0, 0) (yX3_fillOpen, cX3_fillOpen, none, RX3) := zOK_of2 (len := 59) zh40 zr40 (fun pc h => zguard h)
def zps41 : List (Nat × Nat) := [(16, 1123), (19, 1051), (29, 3185)]
set_option maxRecDepth 100000 in
theorem zr41 : zrowsB (yX3_fillPrograms, cX3_fillPrograms, none, RX3) zps41 zxi41 59 = true := by decide +kernel
set_option maxRecDepth 100000 in
theorem zhc41 : zheadC 41 (zxi41, 2, 5, 3, 41, 0, 0, 0, 0) (yX3_fillPrograms, cX3_fillPrograms, none, RX3) 0 1002 6004 118 = true := by decide +kernel
set_option maxRecDepth 100000 in
theorem zh41 : zheadB 41 (zxi41, 2, 5, 3, 41, 0, 0, 0, 0) (yX3_fillPrograms, cX3_fillPrograms, none, RX3) 0 6005 1002 6004 118 = true := zheadB_of rfl zhc41
theorem zm41 : zOK 41 (zxi41, 2, 5, 3, 41, 0, 0, 0, 0) (yX3_fillPrograms, cX3_fillPrograms, none, RX3) := zOK_of2 (len := 59) zh41 zr41 (fun pc h => zguard h)
def zps42 : List (Nat × Nat) := [(2, 5192)]
set_option maxRecDepth 100000 in
theorem zr42 : zrowsB (yX3_opened, cX3_opened, some .int, RX3) zps42 zxi42 6 = true := by decide +kernel
set_option maxRecDepth 100000 in
theorem zhc42 : zheadC 42 (zxi42, 2, 2, 3, 42, 0, 0, 1, 0) (yX3_opened, cX3_opened, some .int, RX3) 0 1002 5190 110 = true := by decide +kernel
set_option maxRecDepth 100000 in
theorem zh42 : zheadB 42 (zxi42, 2, 2, 3, 42, 0, 0, 1, 0) (yX3_opened, cX3_opened, some .int, RX3) 0 5191 1002 5190 110 = true := zheadB_of rfl zhc42
theorem zm42 : zOK 42 (zxi42, 2, 2, 3, 42, 0, 0, 1, 0) (yX3_opened, cX3_opened, some .int, RX3) := zOK_of2 (len := 6) zh42 zr42 (fun pc h => zguard h)
def zps43 : List (Nat × Nat) := [(4, 5192)]
set_option maxRecDepth 100000 in
theorem zr43 : zrowsB (yX3_shut, cX3_shut, some .int, RX3) zps43 zxi43 8 = true := by decide +kernel
set_option maxRecDepth 100000 in
theorem zhc43 : zheadC 43 (zxi43, 2, 2, 3, 43, 0, 0, 1, 0) (yX3_shut, cX3_shut, some .int, RX3) 0 1002 5198 112 = true := by decide +kernel
set_option maxRecDepth 100000 in
theorem zh43 : zheadB 43 (zxi43, 2, 2, 3, 43, 0, 0, 1, 0) (yX3_shut, cX3_shut, some .int, RX3) 0 5199 1002 5198 112 = true := zheadB_of rfl zhc43
theorem zm43 : zOK 43 (zxi43, 2, 2, 3, 43, 0, 0, 1, 0) (yX3_shut, cX3_shut, some .int, RX3) := zOK_of2 (len := 8) zh43 zr43 (fun pc h => zguard h)
def zps44 : List (Nat × Nat) := [(10, 1123), (13, 1051), (20, 1141), (30, 1137)]
set_option maxRecDepth 100000 in
theorem zr44 : zrowsB (yX3_heldBy, cX3_heldBy, some .int, RX3) zps44 zxi44 66 = true := by decide +kernel
set_option maxRecDepth 100000 in
theorem zhc44 : zheadC 44 (zxi44, 2, 5, 3, 44, 0, 0, 1, 0) (yX3_heldBy, cX3_heldBy, some .int, RX3) 0 1002 5194 111 = true := by decide +kernel
set_option maxRecDepth 100000 in
theorem zh44 : zheadB 44 (zxi44, 2, 5, 3, 44, 0, 0, 1, 0) (yX3_heldBy, cX3_heldBy, some .int, RX3) 0 5195 1002 5194 111 = true := zheadB_of rfl zhc44
theorem zm44 : zOK 44 (zxi44, 2, 5, 3, 44, 0, 0, 1, 0) (yX3_heldBy, cX3_heldBy, some .int, RX3) := zOK_of2 (len := 66) zh44 zr44 (fun pc h => zguard h)
def zps45 : List (Nat × Nat) := [(1, 1230), (10, 1231)]
set_option maxRecDepth 100000 in
theorem zr45 : zrowsB (yX4_init, cX4_init, none, RX4) zps45 zxi45 14 = true := by decide +kernel
set_option maxRecDepth 100000 in
theorem zhc45 : zheadC 45 (zxi45, 1, 1, 4, 45, 1, 900, 0, 5) (yX4_init, cX4_init, none, RX4) 1 1007 1228 0 = true := by decide +kernel
set_option maxRecDepth 100000 in
theorem zh45 : zheadB 45 (zxi45, 1, 1, 4, 45, 1, 900, 0, 5) (yX4_init, cX4_init, none, RX4) 1 1229 1007 1228 0 = true := zheadB_of rfl zhc45
theorem zm45 : zOK 45 (zxi45, 1, 1, 4, 45, 1, 900, 0, 5) (yX4_init, cX4_init, none, RX4) := zOK_of2 (len := 14) zh45 zr45 (fun pc h => zguard h)
def zps46 : List (Nat × Nat) := [(2, 1236), (7, 4077), (11, 1235), (24, 1236), (29, 4077), (34, 1235), (37, 1233)]
set_option maxRecDepth 100000 in
theorem zr46 : zrowsB (yX4_write, cX4_write, some .boolean, RX4) zps46 zxi46 42 = true := by decide +kernel
set_option maxRecDepth 100000 in
theorem zhc46 : zheadC 46 (zxi46, 2, 2, 4, 46, 0, 0, 2, 0) (yX4_write, cX4_write, some .boolean, RX4) 0 1007 4075 51 = true := by decide +kernel
set_option maxRecDepth 100000 in
theorem zh46 : zheadB 46 (zxi46, 2, 2, 4, 46, 0, 0, 2, 0) (yX4_write, cX4_write, some .boolean, RX4) 0 4076 1007 4075 51 = true := zheadB_of rfl zhc46
theorem zm46 : zOK 46 (zxi46, 2, 2, 4, 46, 0, 0, 2, 0) (yX4_write, cX4_write, some .boolean, RX4) := zOK_of2 (len := 42) zh46 zr46 (fun pc h => zguard h)
def zps47 : List (Nat × Nat) := [(2, 1235), (8, 4082), (13, 1126), (16, 1039), (19, 4092), (24, 1126), (27, 1042), (30, 4092), (36, 4082), (41, 4097), (48, 1147), (57, 4082), (62, 1152), (67, 4092), (73, 4082), (84, 4103), (89, 4110), (94, 4115), (98, 1159), (106, 1163), (109, 4120)]
set_option maxRecDepth 100000 in
theorem zr47 : zrowsB (yX4_writeAll, cX4_writeAll, none, RX4) zps47 zxi47 113 = true := by decide +kernel
set_option maxRecDepth 100000 in
theorem zhc47 : zheadC 47 (zxi47, 2, 3, 4, 47, 0, 0, 0, 0) (yX4_writeAll, cX4_writeAll, none, RX4) 0 1007 4079 52 = true := by decide +kernel
set_option maxRecDepth 100000 in
theorem zh47 : zheadB 47 (zxi47, 2, 3, 4, 47, 0, 0, 0, 0) (yX4_writeAll, cX4_writeAll, none, RX4) 0 4080 1007 4079 52 = true := zheadB_of rfl zhc47
theorem zm47 : zOK 47 (zxi47, 2, 3, 4, 47, 0, 0, 0, 0) (yX4_writeAll, cX4_writeAll, none, RX4) := zOK_of2 (len := 113) zh47 zr47 (fun pc h => zguard h)
def zps48 : List (Nat × Nat) := [(4, 1126), (7, 1050), (14, 1134), (24, 1130), (35, 4082), (40, 4092), (47, 1134), (57, 1130), (66, 4092), (78, 4082)]
set_option maxRecDepth 100000 in
theorem zr48 : zrowsB (yX4_writeSwitches, cX4_writeSwitches, none, RX4) zps48 zxi48 88 = true := by decide +kernel
set_option maxRecDepth 100000 in
theorem zhc48 : zheadC 48 (zxi48, 2, 4, 4, 48, 0, 0, 0, 0) (yX4_writeSwitches, cX4_writeSwitches, none, RX4) 0 1007 4099 56 = true := by decide +kernel
set_option maxRecDepth 100000 in
theorem zh48 : zheadB 48 (zxi48, 2, 4, 4, 48, 0, 0, 0, 0) (yX4_writeSwitches, cX4_writeSwitches, none, RX4) 0 4100 1007 4099 56 = true := zheadB_of rfl zhc48
theorem zm48 : zOK 48 (zxi48, 2, 4, 4, 48, 0, 0, 0, 0) (yX4_writeSwitches, cX4_writeSwitches, none, RX4) := zOK_of2 (len := 88) zh48 zr48 (fun pc h => zguard h)
def zps49 : List (Nat × Nat) := [(4, 1126), (7, 1050), (14, 1138), (25, 4082), (30, 4092), (35, 1138), (51, 4082)]
set_option maxRecDepth 100000 in
theorem zr49 : zrowsB (yX4_writeStuck, cX4_writeStuck, none, RX4) zps49 zxi49 61 = true := by decide +kernel
set_option maxRecDepth 100000 in
theorem zhc49 : zheadC 49 (zxi49, 2, 3, 4, 49, 0, 0, 0, 0) (yX4_writeStuck, cX4_writeStuck, none, RX4) 0 1007 4105 57 = true := by decide +kernel
set_option maxRecDepth 100000 in
theorem zh49 : zheadB 49 (zxi49, 2, 3, 4, 49, 0, 0, 0, 0) (yX4_writeStuck, cX4_writeStuck, none, RX4) 0 4106 1007 4105 57 = true := zheadB_of rfl zhc49
theorem zm49 : zOK 49 (zxi49, 2, 3, 4, 49, 0, 0, 0, 0) (yX4_writeStuck, cX4_writeStuck, none, RX4) := zOK_of2 (len := 61) zh49 zr49 (fun pc h => zguard h)
def zps50 : List (Nat × Nat) := [(4, 1126), (7, 1050), (14, 1142), (25, 4082), (30, 4092), (36, 4082)]
set_option maxRecDepth 100000 in
theorem zr50 : zrowsB (yX4_writeFree, cX4_writeFree, none, RX4) zps50 zxi50 46 = true := by decide +kernel
set_option maxRecDepth 100000 in
theorem zhc50 : zheadC 50 (zxi50, 2, 3, 4, 50, 0, 0, 0, 0) (yX4_writeFree, cX4_writeFree, none, RX4) 0 1007 4112 58 = true := by decide +kernel
set_option maxRecDepth 100000 in
theorem zh50 : zheadB 50 (zxi50, 2, 3, 4, 50, 0, 0, 0, 0) (yX4_writeFree, cX4_writeFree, none, RX4) 0 4113 1007 4112 58 = true := zheadB_of rfl zhc50
theorem zm50 : zOK 50 (zxi50, 2, 3, 4, 50, 0, 0, 0, 0) (yX4_writeFree, cX4_writeFree, none, RX4) := zOK_of2 (len := 46) zh50 zr50 (fun pc h => zguard h)
def zps51 : List (Nat × Nat) := [(4, 1147), (11, 1155), (23, 4082), (28, 4092), (33, 1155), (38, 4092), (44, 4082)]
set_option maxRecDepth 100000 in
theorem zr51 : zrowsB (yX4_writePlaces, cX4_writePlaces, none, RX4) zps51 zxi51 54 = true := by decide +kernel
set_option maxRecDepth 100000 in
theorem zhc51 : zheadC 51 (zxi51, 2, 3, 4, 51, 0, 0, 0, 0) (yX4_writePlaces, cX4_writePlaces, none, RX4) 0 1007 4117 59 = true := by decide +kernel
set_option maxRecDepth 100000 in
theorem zh51 : zheadB 51 (zxi51, 2, 3, 4, 51, 0, 0, 0, 0) (yX4_writePlaces, cX4_writePlaces, none, RX4) 0 4118 1007 4117 59 = true := zheadB_of rfl zhc51
theorem zm51 : zOK 51 (zxi51, 2, 3, 4, 51, 0, 0, 0, 0) (yX4_writePlaces, cX4_writePlaces, none, RX4) := zOK_of2 (len := 54) zh51 zr51 (fun pc h => zguard h)
def zps52 : List (Nat × Nat) := [(3, 4082), (10, 4125), (17, 1110), (28, 4082), (33, 1110), (38, 4133), (41, 4092), (53, 4082)]
set_option maxRecDepth 100000 in
theorem zr52 : zrowsB (yX4_writeWished, cX4_writeWished, none, RX4) zps52 zxi52 57 = true := by decide +kernel
set_option maxRecDepth 100000 in
theorem zhc52 : zheadC 52 (zxi52, 2, 3, 4, 52, 0, 0, 0, 0) (yX4_writeWished, cX4_writeWished, none, RX4) 0 1007 4122 60 = true := by decide +kernel
set_option maxRecDepth 100000 in
theorem zh52 : zheadB 52 (zxi52, 2, 3, 4, 52, 0, 0, 0, 0) (yX4_writeWished, cX4_writeWished, none, RX4) 0 4123 1007 4122 60 = true := zheadB_of rfl zhc52
theorem zm52 : zOK 52 (zxi52, 2, 3, 4, 52, 0, 0, 0, 0) (yX4_writeWished, cX4_writeWished, none, RX4) := zOK_of2 (len := 57) zh52 zr52 (fun pc h => zguard h)
def zps53 : List (Nat × Nat) := [(4, 4086), (13, 4087), (16, 4088)]
set_option maxRecDepth 100000 in
theorem zr53 : zrowsB (yX4_writeText, cX4_writeText, none, RX4) zps53 zxi53 26 = true := by decide +kernel
set_option maxRecDepth 100000 in
theorem zhc53 : zheadC 53 (zxi53, 2, 3, 4, 53, 0, 0, 0, 0) (yX4_writeText, cX4_writeText, none, RX4) 0 1007 4084 53 = true := by decide +kernel
set_option maxRecDepth 100000 in
theorem zh53 : zheadB 53 (zxi53, 2, 3, 4, 53, 0, 0, 0, 0) (yX4_writeText, cX4_writeText, none, RX4) 0 4085 1007 4084 53 = true := zheadB_of rfl zhc53
theorem zm53 : zOK 53 (zxi53, 2, 3, 4, 53, 0, 0, 0, 0) (yX4_writeText, cX4_writeText, none, RX4) := zOK_of2 (len := 26) zh53 zr53 (fun pc h => zguard h)
def zps54 : List (Nat × Nat) := [(3, 4088), (20, 4088), (31, 4088)]
set_option maxRecDepth 100000 in
theorem zr54 : zrowsB (yX4_writeNumber, cX4_writeNumber, none, RX4) zps54 zxi54 35 = true := by decide +kernel
set_option maxRecDepth 100000 in
theorem zhc54 : zheadC 54 (zxi54, 2, 2, 4, 54, 0, 0, 0, 0) (yX4_writeNumber, cX4_writeNumber, none, RX4) 0 1007 4094 55 = true := by decide +kernel
set_option maxRecDepth 100000 in
theorem zh54 : zheadB 54 (zxi54, 2, 2, 4, 54, 0, 0, 0, 0) (yX4_writeNumber, cX4_writeNumber, none, RX4) 0 4095 1007 4094 55 = true := zheadB_of rfl zhc54
theorem zm54 : zOK 54 (zxi54, 2, 2, 4, 54, 0, 0, 0, 0) (yX4_writeNumber, cX4_writeNumber, none, RX4) := zOK_of2 (len := 35) zh54 zr54 (fun pc h => zguard h)
def zps55 : List (Nat × Nat) := [(1, 1236), (8, 1235), (18, 1231), (22, 1235), (30, 1235), (35, 1235)]
set_option maxRecDepth 100000 in
theorem zr55 : zrowsB (yX4_writeByte, cX4_writeByte, none, RX4) zps55 zxi55 39 = true := by decide +kernel
set_option maxRecDepth 100000 in
theorem zhc55 : zheadC 55 (zxi55, 2, 2, 4, 55, 0, 0, 0, 0) (yX4_writeByte, cX4_writeByte, none, RX4) 0 1007 4090 54 = true := by decide +kernel
set_option maxRecDepth 100000 in
theorem zh55 : zheadB 55 (zxi55, 2, 2, 4, 55, 0, 0, 0, 0) (yX4_writeByte, cX4_writeByte, none, RX4) 0 4091 1007 4090 54 = true := zheadB_of rfl zhc55
theorem zm55 : zOK 55 (zxi55, 2, 2, 4, 55, 0, 0, 0, 0) (yX4_writeByte, cX4_writeByte, none, RX4) := zOK_of2 (len := 39) zh55 zr55 (fun pc h => zguard h)
def zps56 : List (Nat × Nat) := [(1, 1192), (10, 1193), (15, 1196), (20, 1198)]
set_option maxRecDepth 100000 in
theorem zr56 : zrowsB (yX5_init, cX5_init, none, RX5) zps56 zxi56 24 = true := by decide +kernel
set_option maxRecDepth 100000 in
theorem zhc56 : zheadC 56 (zxi56, 1, 1, 5, 56, 1, 900, 0, 6) (yX5_init, cX5_init, none, RX5) 1 1006 1190 0 = true := by decide +kernel
set_option maxRecDepth 100000 in
theorem zh56 : zheadB 56 (zxi56, 1, 1, 5, 56, 1, 900, 0, 6) (yX5_init, cX5_init, none, RX5) 1 1191 1006 1190 0 = true := zheadB_of rfl zhc56
theorem zm56 : zOK 56 (zxi56, 1, 1, 5, 56, 1, 900, 0, 6) (yX5_init, cX5_init, none, RX5) := zOK_of2 (len := 24) zh56 zr56 (fun pc h => zguard h)
def zps57 : List (Nat × Nat) := [(8, 1194), (18, 1193), (22, 1194), (32, 1194), (37, 1194)]
set_option maxRecDepth 100000 in
theorem zr57 : zrowsB (yX5_append, cX5_append, none, RX5) zps57 zxi57 47 = true := by decide +kernel
set_option maxRecDepth 100000 in
theorem zhc57 : zheadC 57 (zxi57, 2, 3, 5, 57, 0, 0, 0, 0) (yX5_append, cX5_append, none, RX5) 0 1006 2234 8 = true := by decide +kernel
set_option maxRecDepth 100000 in
theorem zh57 : zheadB 57 (zxi57, 2, 3, 5, 57, 0, 0, 0, 0) (yX5_append, cX5_append, none, RX5) 0 2235 1006 2234 8 = true := zheadB_of rfl zhc57
theorem zm57 : zOK 57 (zxi57, 2, 3, 5, 57, 0, 0, 0, 0) (yX5_append, cX5_append, none, RX5) := zOK_of2 (len := 47) zh57 zr57 (fun pc h => zguard h)
def zps58 : List (Nat × Nat) := [(2, 1200), (7, 1202), (12, 1194), (17, 1196), (22, 1198), (27, 3008), (36, 3012), (49, 1203), (57, 3097), (66, 3012)]
set_option maxRecDepth 100000 in
theorem zr58 : zrowsB (yX5_readAll, cX5_readAll, some .boolean, RX5) zps58 zxi58 77 = true := by decide +kernel
set_option maxRecDepth 100000 in
theorem zhc58 : zheadC 58 (zxi58, 3, 4, 5, 58, 0, 0, 2, 0) (yX5_readAll, cX5_readAll, some .boolean, RX5) 0 1006 3006 10 = true := by decide +kernel
set_option maxRecDepth 100000 in
theorem zh58 : zheadB 58 (zxi58, 3, 4, 5, 58, 0, 0, 2, 0) (yX5_readAll, cX5_readAll, some .boolean, RX5) 0 3007 1006 3006 10 = true := zheadB_of rfl zhc58
theorem zm58 : zOK 58 (zxi58, 3, 4, 5, 58, 0, 0, 2, 0) (yX5_readAll, cX5_readAll, some .boolean, RX5) := zOK_of2 (len := 77) zh58 zr58 (fun pc h => zguard h)
def zps59 : List (Nat × Nat) := [(2, 1196), (7, 1201), (10, 1198)]
set_option maxRecDepth 100000 in
theorem zr59 : zrowsB (yX5_fail, cX5_fail, some .boolean, RX5) zps59 zxi59 15 = true := by decide +kernel
set_option maxRecDepth 100000 in
theorem zhc59 : zheadC 59 (zxi59, 2, 2, 5, 59, 0, 0, 2, 0) (yX5_fail, cX5_fail, some .boolean, RX5) 0 1006 3082 16 = true := by decide +kernel
set_option maxRecDepth 100000 in
theorem zh59 : zheadB 59 (zxi59, 2, 2, 5, 59, 0, 0, 2, 0) (yX5_fail, cX5_fail, some .boolean, RX5) 0 3083 1006 3082 16 = true := zheadB_of rfl zhc59
theorem zm59 : zOK 59 (zxi59, 2, 2, 5, 59, 0, 0, 2, 0) (yX5_fail, cX5_fail, some .boolean, RX5) := zOK_of2 (len := 15) zh59 zr59 (fun pc h => zguard h)
def zps60 : List (Nat × Nat) := [(1, 3012), (7, 3024), (15, 3076), (18, 3080), (25, 3084), (34, 1204), (41, 3084), (52, 1204), (55, 3092), (59, 3093)]
set_option maxRecDepth 100000 in
theorem zr60 : zrowsB (yX5_readSize, cX5_readSize, some .boolean, RX5) zps60 zxi60 63 = true := by decide +kernel
set_option maxRecDepth 100000 in
theorem zhc60 : zheadC 60 (zxi60, 2, 3, 5, 60, 0, 0, 2, 0) (yX5_readSize, cX5_readSize, some .boolean, RX5) 0 1006 3010 11 = true := by decide +kernel
set_option maxRecDepth 100000 in
theorem zh60 : zheadB 60 (zxi60, 2, 3, 5, 60, 0, 0, 2, 0) (yX5_readSize, cX5_readSize, some .boolean, RX5) 0 3011 1006 3010 11 = true := zheadB_of rfl zhc60
theorem zm60 : zOK 60 (zxi60, 2, 3, 5, 60, 0, 0, 2, 0) (yX5_readSize, cX5_readSize, some .boolean, RX5) := zOK_of2 (len := 63) zh60 zr60 (fun pc h => zguard h)
def zps61 : List (Nat × Nat) := [(3, 3024), (11, 3102), (18, 3024), (26, 3107), (33, 3024), (41, 3120), (48, 3024), (56, 3127), (63, 3024), (71, 3136), (78, 3024), (86, 3141), (94, 3076), (97, 3080)]
set_option maxRecDepth 100000 in
theorem zr61 : zrowsB (yX5_readLine, cX5_readLine, some .boolean, RX5) zps61 zxi61 101 = true := by decide +kernel
set_option maxRecDepth 100000 in
theorem zhc61 : zheadC 61 (zxi61, 2, 2, 5, 61, 0, 0, 2, 0) (yX5_readLine, cX5_readLine, some .boolean, RX5) 0 1006 3099 20 = true := by decide +kernel
set_option maxRecDepth 100000 in
theorem zh61 : zheadB 61 (zxi61, 2, 2, 5, 61, 0, 0, 2, 0) (yX5_readLine, cX5_readLine, some .boolean, RX5) 0 3100 1006 3099 20 = true := zheadB_of rfl zhc61
theorem zm61 : zOK 61 (zxi61, 2, 2, 5, 61, 0, 0, 2, 0) (yX5_readLine, cX5_readLine, some .boolean, RX5) := zOK_of2 (len := 101) zh61 zr61 (fun pc h => zguard h)
def zps62 : List (Nat × Nat) := [(3, 1128), (6, 1053), (11, 3084), (20, 1204), (27, 3084), (36, 1204), (50, 3012), (54, 1203), (62, 1131), (69, 1135), (81, 3088), (91, 1204), (108, 3080)]
set_option maxRecDepth 100000 in
theorem zr62 : zrowsB (yX5_readSwitch, cX5_readSwitch, some .boolean, RX5) zps62 zxi62 112 = true := by decide +kernel
set_option maxRecDepth 100000 in
theorem zhc62 : zheadC 62 (zxi62, 2, 5, 5, 62, 0, 0, 2, 0) (yX5_readSwitch, cX5_readSwitch, some .boolean, RX5) 0 1006 3104 21 = true := by decide +kernel
set_option maxRecDepth 100000 in
theorem zh62 : zheadB 62 (zxi62, 2, 5, 5, 62, 0, 0, 2, 0) (yX5_readSwitch, cX5_readSwitch, some .boolean, RX5) 0 3105 1006 3104 21 = true := zheadB_of rfl zhc62
theorem zm62 : zOK 62 (zxi62, 2, 5, 5, 62, 0, 0, 2, 0) (yX5_readSwitch, cX5_readSwitch, some .boolean, RX5) := zOK_of2 (len := 112) zh62 zr62 (fun pc h => zguard h)
def zps63 : List (Nat × Nat) := [(1, 1149), (12, 3080), (19, 1128), (22, 1047), (27, 3084), (37, 1204), (40, 3111), (48, 3080), (54, 1204), (57, 3115), (61, 3093)]
set_option maxRecDepth 100000 in
theorem zr63 : zrowsB (yX5_readBobbin, cX5_readBobbin, some .boolean, RX5) zps63 zxi63 65 = true := by decide +kernel
set_option maxRecDepth 100000 in
theorem zhc63 : zheadC 63 (zxi63, 2, 2, 5, 63, 0, 0, 2, 0) (yX5_readBobbin, cX5_readBobbin, some .boolean, RX5) 0 1006 3109 22 = true := by decide +kernel
set_option maxRecDepth 100000 in
theorem zh63 : zheadB 63 (zxi63, 2, 2, 5, 63, 0, 0, 2, 0) (yX5_readBobbin, cX5_readBobbin, some .boolean, RX5) 0 3110 1006 3109 22 = true := zheadB_of rfl zhc63
theorem zm63 : zOK 63 (zxi63, 2, 2, 5, 63, 0, 0, 2, 0) (yX5_readBobbin, cX5_readBobbin, some .boolean, RX5) := zOK_of2 (len := 65) zh63 zr63 (fun pc h => zguard h)
def zps64 : List (Nat × Nat) := [(3, 1128), (6, 1053), (11, 3084), (20, 1204), (25, 3012), (31, 3024), (38, 1140), (50, 3024), (57, 1140), (68, 3076), (71, 3080), (76, 3093)]
set_option maxRecDepth 100000 in
theorem zr64 : zrowsB (yX5_readStuck, cX5_readStuck, some .boolean, RX5) zps64 zxi64 80 = true := by decide +kernel
set_option maxRecDepth 100000 in
theorem zhc64 : zheadC 64 (zxi64, 2, 3, 5, 64, 0, 0, 2, 0) (yX5_readStuck, cX5_readStuck, some .boolean, RX5) 0 1006 3122 25 = true := by decide +kernel
set_option maxRecDepth 100000 in
theorem zh64 : zheadB 64 (zxi64, 2, 3, 5, 64, 0, 0, 2, 0) (yX5_readStuck, cX5_readStuck, some .boolean, RX5) 0 3123 1006 3122 25 = true := zheadB_of rfl zhc64
theorem zm64 : zOK 64 (zxi64, 2, 3, 5, 64, 0, 0, 2, 0) (yX5_readStuck, cX5_readStuck, some .boolean, RX5) := zOK_of2 (len := 80) zh64 zr64 (fun pc h => zguard h)
def zps65 : List (Nat × Nat) := [(1, 3131), (12, 3080), (19, 1128), (22, 1053), (27, 3084), (36, 1144), (40, 1204), (46, 3093)]
set_option maxRecDepth 100000 in
theorem zr65 : zrowsB (yX5_readFree, cX5_readFree, some .boolean, RX5) zps65 zxi65 50 = true := by decide +kernel
set_option maxRecDepth 100000 in
theorem zhc65 : zheadC 65 (zxi65, 2, 2, 5, 65, 0, 0, 2, 0) (yX5_readFree, cX5_readFree, some .boolean, RX5) 0 1006 3129 26 = true := by decide +kernel
set_option maxRecDepth 100000 in
theorem zh65 : zheadB 65 (zxi65, 2, 2, 5, 65, 0, 0, 2, 0) (yX5_readFree, cX5_readFree, some .boolean, RX5) 0 3130 1006 3129 26 = true := zheadB_of rfl zhc65
theorem zm65 : zOK 65 (zxi65, 2, 2, 5, 65, 0, 0, 2, 0) (yX5_readFree, cX5_readFree, some .boolean, RX5) := zOK_of2 (len := 50) zh65 zr65 (fun pc h => zguard h)
def zps66 : List (Nat × Nat) := [(3, 1149), (8, 3084), (17, 1204), (24, 1128), (27, 1047), (32, 3084), (41, 1157), (46, 1204), (51, 3093)]
set_option maxRecDepth 100000 in
theorem zr66 : zrowsB (yX5_readPlace, cX5_readPlace, some .boolean, RX5) zps66 zxi66 55 = true := by decide +kernel
set_option maxRecDepth 100000 in
theorem zhc66 : zheadC 66 (zxi66, 2, 3, 5, 66, 0, 0, 2, 0) (yX5_readPlace, cX5_readPlace, some .boolean, RX5) 0 1006 3138 28 = true := by decide +kernel
set_option maxRecDepth 100000 in
theorem zh66 : zheadB 66 (zxi66, 2, 3, 5, 66, 0, 0, 2, 0) (yX5_readPlace, cX5_readPlace, some .boolean, RX5) 0 3139 1006 3138 28 = true := zheadB_of rfl zhc66
theorem zm66 : zOK 66 (zxi66, 2, 3, 5, 66, 0, 0, 2, 0) (yX5_readPlace, cX5_readPlace, some .boolean, RX5) := zOK_of2 (len := 55) zh66 zr66 (fun pc h => zguard h)
def zps67 : List (Nat × Nat) := [(2, 1161), (6, 1165), (10, 1116), (22, 3012), (26, 1203), (36, 1203), (50, 1203), (58, 3012), (65, 3088), (74, 1165), (79, 1204), (83, 3145), (95, 3080)]
set_option maxRecDepth 100000 in
theorem zr67 : zrowsB (yX5_readWished, cX5_readWished, some .boolean, RX5) zps67 zxi67 99 = true := by decide +kernel
set_option maxRecDepth 100000 in
theorem zhc67 : zheadC 67 (zxi67, 2, 4, 5, 67, 0, 0, 2, 0) (yX5_readWished, cX5_readWished, some .boolean, RX5) 0 1006 3143 29 = true := by decide +kernel
set_option maxRecDepth 100000 in
theorem zh67 : zheadB 67 (zxi67, 2, 4, 5, 67, 0, 0, 2, 0) (yX5_readWished, cX5_readWished, some .boolean, RX5) 0 3144 1006 3143 29 = true := zheadB_of rfl zhc67
theorem zm67 : zOK 67 (zxi67, 2, 4, 5, 67, 0, 0, 2, 0) (yX5_readWished, cX5_readWished, some .boolean, RX5) := zOK_of2 (len := 99) zh67 zr67 (fun pc h => zguard h)
def zps68 : List (Nat × Nat) := [(1, 3012), (5, 1203), (14, 3076), (17, 3080)]
set_option maxRecDepth 100000 in
theorem zr68 : zrowsB (yX5_takeSemicolon, cX5_takeSemicolon, some .boolean, RX5) zps68 zxi68 29 = true := by decide +kernel
set_option maxRecDepth 100000 in
theorem zhc68 : zheadC 68 (zxi68, 1, 1, 5, 68, 0, 0, 2, 0) (yX5_takeSemicolon, cX5_takeSemicolon, some .boolean, RX5) 0 1006 3095 19 = true := by decide +kernel
set_option maxRecDepth 100000 in
theorem zh68 : zheadB 68 (zxi68, 1, 1, 5, 68, 0, 0, 2, 0) (yX5_takeSemicolon, cX5_takeSemicolon, some .boolean, RX5) 0 3096 1006 3095 19 = true := zheadB_of rfl zhc68
theorem zm68 : zOK 68 (zxi68, 1, 1, 5, 68, 0, 0, 2, 0) (yX5_takeSemicolon, cX5_takeSemicolon, some .boolean, RX5) := zOK_of2 (len := 29) zh68 zr68 (fun pc h => zguard h)
def zps69 : List (Nat × Nat) := [(1, 3012), (7, 3088)]
set_option maxRecDepth 100000 in
theorem zr69 : zrowsB (yX5_takeNumber, cX5_takeNumber, some .boolean, RX5) zps69 zxi69 11 = true := by decide +kernel
set_option maxRecDepth 100000 in
theorem zhc69 : zheadC 69 (zxi69, 3, 3, 5, 69, 0, 0, 2, 0) (yX5_takeNumber, cX5_takeNumber, some .boolean, RX5) 0 1006 3086 17 = true := by decide +kernel
set_option maxRecDepth 100000 in
theorem zh69 : zheadB 69 (zxi69, 3, 3, 5, 69, 0, 0, 2, 0) (yX5_takeNumber, cX5_takeNumber, some .boolean, RX5) 0 3087 1006 3086 17 = true := zheadB_of rfl zhc69
theorem zm69 : zOK 69 (zxi69, 3, 3, 5, 69, 0, 0, 2, 0) (yX5_takeNumber, cX5_takeNumber, some .boolean, RX5) := zOK_of2 (len := 11) zh69 zr69 (fun pc h => zguard h)
def zps70 : List (Nat × Nat) := [(1, 1203), (10, 3076), (13, 3080), (18, 1204), (26, 1204), (35, 3080)]
set_option maxRecDepth 100000 in
theorem zr70 : zrowsB (yX5_isNumber, cX5_isNumber, some .boolean, RX5) zps70 zxi70 47 = true := by decide +kernel
set_option maxRecDepth 100000 in
theorem zhc70 : zheadC 70 (zxi70, 3, 3, 5, 70, 0, 0, 2, 0) (yX5_isNumber, cX5_isNumber, some .boolean, RX5) 0 1006 3090 18 = true := by decide +kernel
set_option maxRecDepth 100000 in
theorem zh70 : zheadB 70 (zxi70, 3, 3, 5, 70, 0, 0, 2, 0) (yX5_isNumber, cX5_isNumber, some .boolean, RX5) 0 3091 1006 3090 18 = true := zheadB_of rfl zhc70
theorem zm70 : zOK 70 (zxi70, 3, 3, 5, 70, 0, 0, 2, 0) (yX5_isNumber, cX5_isNumber, some .boolean, RX5) := zOK_of2 (len := 47) zh70 zr70 (fun pc h => zguard h)
def zps71 : List (Nat × Nat) := [(1, 1203)]
set_option maxRecDepth 100000 in
theorem zr71 : zrowsB (yX5_misfit, cX5_misfit, some .int, RX5) zps71 zxi71 14 = true := by decide +kernel
set_option maxRecDepth 100000 in
theorem zhc71 : zheadC 71 (zxi71, 1, 1, 5, 71, 0, 0, 1, 0) (yX5_misfit, cX5_misfit, some .int, RX5) 0 1006 3078 15 = true := by decide +kernel
set_option maxRecDepth 100000 in
theorem zh71 : zheadB 71 (zxi71, 1, 1, 5, 71, 0, 0, 1, 0) (yX5_misfit, cX5_misfit, some .int, RX5) 0 3079 1006 3078 15 = true := zheadB_of rfl zhc71
theorem zm71 : zOK 71 (zxi71, 1, 1, 5, 71, 0, 0, 1, 0) (yX5_misfit, cX5_misfit, some .int, RX5) := zOK_of2 (len := 14) zh71 zr71 (fun pc h => zguard h)
def zps72 : List (Nat × Nat) := [(1, 1203), (9, 1202), (13, 1201), (18, 3028), (30, 3028), (37, 1193), (41, 1201), (49, 3038)]
set_option maxRecDepth 100000 in
theorem zr72 : zrowsB (yX5_isWord, cX5_isWord, some .boolean, RX5) zps72 zxi72 65 = true := by decide +kernel
set_option maxRecDepth 100000 in
theorem zhc72 : zheadC 72 (zxi72, 2, 3, 5, 72, 0, 0, 2, 0) (yX5_isWord, cX5_isWord, some .boolean, RX5) 0 1006 3026 14 = true := by decide +kernel
set_option maxRecDepth 100000 in
theorem zh72 : zheadB 72 (zxi72, 2, 3, 5, 72, 0, 0, 2, 0) (yX5_isWord, cX5_isWord, some .boolean, RX5) 0 3027 1006 3026 14 = true := zheadB_of rfl zhc72
theorem zm72 : zOK 72 (zxi72, 2, 3, 5, 72, 0, 0, 2, 0) (yX5_isWord, cX5_isWord, some .boolean, RX5) := zOK_of2 (len := 65) zh72 zr72 (fun pc h => zguard h)
def zps73 : List (Nat × Nat) := [(1, 1202), (5, 1200), (12, 1193), (16, 1202), (26, 1193), (30, 1202), (41, 1202), (46, 1202), (54, 1202), (57, 1201), (61, 1202), (65, 1200), (73, 1203), (79, 1193), (83, 1202), (87, 3016), (90, 1203), (95, 1202), (100, 1202), (104, 1203), (112, 1203), (121, 1202), (125, 1200), (132, 1193), (136, 1202), (140, 3016), (144, 1203), (152, 1202), (157, 1202), (164, 1203), (172, 3019)]
set_option maxRecDepth 100000 in
theorem zr73 : zrowsB (yX5_advance, cX5_advance, none, RX5) zps73 zxi73 176 = true := by decide +kernel
set_option maxRecDepth 100000 in
theorem zhc73 : zheadC 73 (zxi73, 1, 1, 5, 73, 0, 0, 0, 0) (yX5_advance, cX5_advance, none, RX5) 0 1006 3014 12 = true := by decide +kernel
set_option maxRecDepth 100000 in
theorem zh73 : zheadB 73 (zxi73, 1, 1, 5, 73, 0, 0, 0, 0) (yX5_advance, cX5_advance, none, RX5) 0 3015 1006 3014 12 = true := zheadB_of rfl zhc73
theorem zm73 : zOK 73 (zxi73, 1, 1, 5, 73, 0, 0, 0, 0) (yX5_advance, cX5_advance, none, RX5) := zOK_of2 (len := 176) zh73 zr73 (fun pc h => zguard h)
def zps74 : List (Nat × Nat) := [(1, 1202), (5, 1201), (15, 1203), (21, 1204), (25, 1201), (31, 1202), (41, 1204), (46, 1193), (55, 1204)]
set_option maxRecDepth 100000 in
theorem zr74 : zrowsB (yX5_weighNumber, cX5_weighNumber, none, RX5) zps74 zxi74 65 = true := by decide +kernel
set_option maxRecDepth 100000 in
theorem zhc74 : zheadC 74 (zxi74, 1, 2, 5, 74, 0, 0, 0, 0) (yX5_weighNumber, cX5_weighNumber, none, RX5) 0 1006 3021 13 = true := by decide +kernel
set_option maxRecDepth 100000 in
theorem zh74 : zheadB 74 (zxi74, 1, 2, 5, 74, 0, 0, 0, 0) (yX5_weighNumber, cX5_weighNumber, none, RX5) 0 3022 1006 3021 13 = true := zheadB_of rfl zhc74
theorem zm74 : zOK 74 (zxi74, 1, 2, 5, 74, 0, 0, 0, 0) (yX5_weighNumber, cX5_weighNumber, none, RX5) := zOK_of2 (len := 65) zh74 zr74 (fun pc h => zguard h)
def zps75 : List (Nat × Nat) := []
set_option maxRecDepth 100000 in
theorem zr75 : zrowsB (yX5_kindOf, cX5_kindOf, some .int, RX5) zps75 zxi75 48 = true := by decide +kernel
set_option maxRecDepth 100000 in
theorem zhc75 : zheadC 75 (zxi75, 1, 1, 5, 75, 0, 0, 1, 0) (yX5_kindOf, cX5_kindOf, some .int, RX5) 2 1006 3017 0 = true := by decide +kernel
set_option maxRecDepth 100000 in
theorem zh75 : zheadB 75 (zxi75, 1, 1, 5, 75, 0, 0, 1, 0) (yX5_kindOf, cX5_kindOf, some .int, RX5) 2 3018 1006 3017 0 = true := zheadB_of rfl zhc75
theorem zm75 : zOK 75 (zxi75, 1, 1, 5, 75, 0, 0, 1, 0) (yX5_kindOf, cX5_kindOf, some .int, RX5) := zOK_of2 (len := 48) zh75 zr75 (fun pc h => zguard h)
def zps76 : List (Nat × Nat) := [(1, 2062), (9, 2064), (17, 2066), (25, 2068), (33, 2070), (41, 2071), (50, 2072)]
set_option maxRecDepth 100000 in
theorem zr76 : zrowsB (yX6_init, cX6_init, none, RX6) zps76 zxi76 54 = true := by decide +kernel
set_option maxRecDepth 100000 in
theorem zhc76 : zheadC 76 (zxi76, 1, 1, 6, 76, 6, 560, 0, 7) (yX6_init, cX6_init, none, RX6) 1 1009 2060 0 = true := by decide +kernel
set_option maxRecDepth 100000 in
theorem zh76 : zheadB 76 (zxi76, 1, 1, 6, 76, 6, 560, 0, 7) (yX6_init, cX6_init, none, RX6) 1 2061 1009 2060 0 = true := zheadB_of rfl zhc76
theorem zm76 : zOK 76 (zxi76, 1, 1, 6, 76, 6, 560, 0, 7) (yX6_init, cX6_init, none, RX6) := zOK_of2 (len := 54) zh76 zr76 (fun pc h => zguard h)
def zps77 : List (Nat × Nat) := [(2, 1044), (5, 2063), (14, 2063), (42, 4161), (46, 4162), (58, 2064), (67, 2068), (86, 2063), (93, 2068), (105, 4163)]
set_option maxRecDepth 100000 in
theorem zr77 : zrowsB (yX6_lay, cX6_lay, none, RX6) zps77 zxi77 115 = true := by decide +kernel
set_option maxRecDepth 100000 in
theorem zhc77 : zheadC 77 (zxi77, 5, 8, 6, 77, 0, 0, 0, 0) (yX6_lay, cX6_lay, none, RX6) 0 1009 4159 64 = true := by decide +kernel
set_option maxRecDepth 100000 in
theorem zh77 : zheadB 77 (zxi77, 5, 8, 6, 77, 0, 0, 0, 0) (yX6_lay, cX6_lay, none, RX6) 0 4160 1009 4159 64 = true := zheadB_of rfl zhc77
theorem zm77 : zOK 77 (zxi77, 5, 8, 6, 77, 0, 0, 0, 0) (yX6_lay, cX6_lay, none, RX6) := zOK_of2 (len := 115) zh77 zr77 (fun pc h => zguard h)
def zps78 : List (Nat × Nat) := [(3, 2064), (15, 2063), (30, 2064), (52, 2068), (59, 2066), (66, 2064)]
set_option maxRecDepth 100000 in
theorem zr78 : zrowsB (yX6_markTrack, cX6_markTrack, none, RX6) zps78 zxi78 79 = true := by decide +kernel
set_option maxRecDepth 100000 in
theorem zhc78 : zheadC 78 (zxi78, 2, 5, 6, 78, 0, 0, 0, 0) (yX6_markTrack, cX6_markTrack, none, RX6) 0 1009 4165 65 = true := by decide +kernel
set_option maxRecDepth 100000 in
theorem zh78 : zheadB 78 (zxi78, 2, 5, 6, 78, 0, 0, 0, 0) (yX6_markTrack, cX6_markTrack, none, RX6) 0 4166 1009 4165 65 = true := zheadB_of rfl zhc78
theorem zm78 : zOK 78 (zxi78, 2, 5, 6, 78, 0, 0, 0, 0) (yX6_markTrack, cX6_markTrack, none, RX6) := zOK_of2 (len := 79) zh78 zr78 (fun pc h => zguard h)
def zps79 : List (Nat × Nat) := [(6, 2063), (13, 2066), (27, 2068)]
set_option maxRecDepth 100000 in
theorem zr79 : zrowsB (yX6_countTracks, cX6_countTracks, some .int, RX6) zps79 zxi79 47 = true := by decide +kernel
set_option maxRecDepth 100000 in
theorem zhc79 : zheadC 79 (zxi79, 2, 4, 6, 79, 0, 0, 1, 0) (yX6_countTracks, cX6_countTracks, some .int, RX6) 0 1009 4185 67 = true := by decide +kernel
set_option maxRecDepth 100000 in
theorem zh79 : zheadB 79 (zxi79, 2, 4, 6, 79, 0, 0, 1, 0) (yX6_countTracks, cX6_countTracks, some .int, RX6) 0 4186 1009 4185 67 = true := zheadB_of rfl zhc79
theorem zm79 : zOK 79 (zxi79, 2, 4, 6, 79, 0, 0, 1, 0) (yX6_countTracks, cX6_countTracks, some .int, RX6) := zOK_of2 (len := 47) zh79 zr79 (fun pc h => zguard h)
def zps80 : List (Nat × Nat) := [(6, 2063), (14, 2068), (19, 4191)]
set_option maxRecDepth 100000 in
theorem zr80 : zrowsB (yX6_greatestLength, cX6_greatestLength, some .int, RX6) zps80 zxi80 31 = true := by decide +kernel
set_option maxRecDepth 100000 in
theorem zhc80 : zheadC 80 (zxi80, 1, 3, 6, 80, 0, 0, 1, 0) (yX6_greatestLength, cX6_greatestLength, some .int, RX6) 0 1009 4189 68 = true := by decide +kernel
set_option maxRecDepth 100000 in
theorem zh80 : zheadB 80 (zxi80, 1, 3, 6, 80, 0, 0, 1, 0) (yX6_greatestLength, cX6_greatestLength, some .int, RX6) 0 4190 1009 4189 68 = true := zheadB_of rfl zhc80
theorem zm80 : zOK 80 (zxi80, 1, 3, 6, 80, 0, 0, 1, 0) (yX6_greatestLength, cX6_greatestLength, some .int, RX6) := zOK_of2 (len := 31) zh80 zr80 (fun pc h => zguard h)
def zps81 : List (Nat × Nat) := [(6, 2063), (14, 2068), (20, 4196)]
set_option maxRecDepth 100000 in
theorem zr81 : zrowsB (yX6_allHome, cX6_allHome, some .long, RX6) zps81 zxi81 32 = true := by decide +kernel
set_option maxRecDepth 100000 in
theorem zhc81 : zheadC 81 (zxi81, 1, 4, 6, 81, 0, 0, 3, 0) (yX6_allHome, cX6_allHome, some .long, RX6) 0 1009 4194 69 = true := by decide +kernel
set_option maxRecDepth 100000 in
theorem zh81 : zheadB 81 (zxi81, 1, 4, 6, 81, 0, 0, 3, 0) (yX6_allHome, cX6_allHome, some .long, RX6) 0 4195 1009 4194 69 = true := zheadB_of rfl zhc81
theorem zm81 : zOK 81 (zxi81, 1, 4, 6, 81, 0, 0, 3, 0) (yX6_allHome, cX6_allHome, some .long, RX6) := zOK_of2 (len := 32) zh81 zr81 (fun pc h => zguard h)
def zps82 : List (Nat × Nat) := [(6, 2072), (14, 2072), (33, 2063), (40, 2070), (70, 2063), (77, 2071), (81, 1057), (85, 2070), (107, 1054), (115, 2071), (119, 1070), (127, 2071), (131, 1073), (138, 4209), (153, 2063), (160, 2070), (167, 2070), (178, 4161), (182, 4162)]
set_option maxRecDepth 100000 in
theorem zr82 : zrowsB (yX6_findFoes, cX6_findFoes, none, RX6) zps82 zxi82 199 = true := by decide +kernel
set_option maxRecDepth 100000 in
theorem zhc82 : zheadC 82 (zxi82, 5, 7, 6, 82, 0, 0, 0, 0) (yX6_findFoes, cX6_findFoes, none, RX6) 0 1009 4207 70 = true := by decide +kernel
set_option maxRecDepth 100000 in
theorem zh82 : zheadB 82 (zxi82, 5, 7, 6, 82, 0, 0, 0, 0) (yX6_findFoes, cX6_findFoes, none, RX6) 0 4208 1009 4207 70 = true := zheadB_of rfl zhc82
theorem zm82 : zOK 82 (zxi82, 5, 7, 6, 82, 0, 0, 0, 0) (yX6_findFoes, cX6_findFoes, none, RX6) := zOK_of2 (len := 199) zh82 zr82 (fun pc h => zguard h)
def zps83 : List (Nat × Nat) := [(20, 4213), (27, 2072), (51, 2072), (74, 2064), (81, 2064)]
set_option maxRecDepth 100000 in
theorem zr83 : zrowsB (yX6_markFoes, cX6_markFoes, none, RX6) zps83 zxi83 96 = true := by decide +kernel
set_option maxRecDepth 100000 in
theorem zhc83 : zheadC 83 (zxi83, 3, 6, 6, 83, 0, 0, 0, 0) (yX6_markFoes, cX6_markFoes, none, RX6) 0 1009 4211 71 = true := by decide +kernel
set_option maxRecDepth 100000 in
theorem zh83 : zheadB 83 (zxi83, 3, 6, 6, 83, 0, 0, 0, 0) (yX6_markFoes, cX6_markFoes, none, RX6) 0 4212 1009 4211 71 = true := zheadB_of rfl zhc83
theorem zm83 : zOK 83 (zxi83, 3, 6, 6, 83, 0, 0, 0, 0) (yX6_markFoes, cX6_markFoes, none, RX6) := zOK_of2 (len := 96) zh83 zr83 (fun pc h => zguard h)
def zps84 : List (Nat × Nat) := [(1, 2072)]
set_option maxRecDepth 100000 in
theorem zr84 : zrowsB (yX6_areFoes, cX6_areFoes, some .boolean, RX6) zps84 zxi84 31 = true := by decide +kernel
set_option maxRecDepth 100000 in
theorem zhc84 : zheadC 84 (zxi84, 3, 3, 6, 84, 0, 0, 2, 0) (yX6_areFoes, cX6_areFoes, some .boolean, RX6) 0 1009 4215 72 = true := by decide +kernel
set_option maxRecDepth 100000 in
theorem zh84 : zheadB 84 (zxi84, 3, 3, 6, 84, 0, 0, 2, 0) (yX6_areFoes, cX6_areFoes, some .boolean, RX6) 0 4216 1009 4215 72 = true := zheadB_of rfl zhc84
theorem zm84 : zOK 84 (zxi84, 3, 3, 6, 84, 0, 0, 2, 0) (yX6_areFoes, cX6_areFoes, some .boolean, RX6) := zOK_of2 (len := 31) zh84 zr84 (fun pc h => zguard h)
def zps85 : List (Nat × Nat) := [(1, 2011), (9, 2020), (17, 2023), (25, 2024), (33, 2025), (41, 2026), (45, 2012), (52, 2013), (55, 2029)]
set_option maxRecDepth 100000 in
theorem zr85 : zrowsB (yX7_init, cX7_init, none, RX7) zps85 zxi85 59 = true := by decide +kernel
set_option maxRecDepth 100000 in
theorem zhc85 : zheadC 85 (zxi85, 1, 1, 7, 85, 7, 362, 0, 8) (yX7_init, cX7_init, none, RX7) 1 1008 2009 0 = true := by decide +kernel
set_option maxRecDepth 100000 in
theorem zh85 : zheadB 85 (zxi85, 1, 1, 7, 85, 7, 362, 0, 8) (yX7_init, cX7_init, none, RX7) 1 2010 1008 2009 0 = true := zheadB_of rfl zhc85
theorem zm85 : zOK 85 (zxi85, 1, 1, 7, 85, 7, 362, 0, 8) (yX7_init, cX7_init, none, RX7) := zOK_of2 (len := 59) zh85 zr85 (fun pc h => zguard h)
def zps86 : List (Nat × Nat) := [(2, 1145), (5, 2014), (10, 2016), (14, 2029), (18, 1113), (25, 2014), (32, 2020), (37, 1151), (45, 1125), (49, 2176)]
set_option maxRecDepth 100000 in
theorem zr86 : zrowsB (yX7_begin, cX7_begin, none, RX7) zps86 zxi86 59 = true := by decide +kernel
set_option maxRecDepth 100000 in
theorem zhc86 : zheadC 86 (zxi86, 2, 3, 7, 86, 0, 0, 0, 0) (yX7_begin, cX7_begin, none, RX7) 0 1008 2174 5 = true := by decide +kernel
set_option maxRecDepth 100000 in
theorem zh86 : zheadB 86 (zxi86, 2, 3, 7, 86, 0, 0, 0, 0) (yX7_begin, cX7_begin, none, RX7) 0 2175 1008 2174 5 = true := zheadB_of rfl zhc86
theorem zm86 : zOK 86 (zxi86, 2, 3, 7, 86, 0, 0, 0, 0) (yX7_begin, cX7_begin, none, RX7) := zOK_of2 (len := 59) zh86 zr86 (fun pc h => zguard h)
def zps87 : List (Nat × Nat) := [(8, 2020), (12, 2024), (20, 2180), (25, 2020), (30, 2180), (37, 2024), (42, 2024), (57, 2024)]
set_option maxRecDepth 100000 in
theorem zr87 : zrowsB (yX7_enterLine, cX7_enterLine, none, RX7) zps87 zxi87 64 = true := by decide +kernel
set_option maxRecDepth 100000 in
theorem zhc87 : zheadC 87 (zxi87, 3, 4, 7, 87, 0, 0, 0, 0) (yX7_enterLine, cX7_enterLine, none, RX7) 0 1008 2178 6 = true := by decide +kernel
set_option maxRecDepth 100000 in
theorem zh87 : zheadB 87 (zxi87, 3, 4, 7, 87, 0, 0, 0, 0) (yX7_enterLine, cX7_enterLine, none, RX7) 0 2179 1008 2178 6 = true := zheadB_of rfl zhc87
theorem zm87 : zOK 87 (zxi87, 3, 4, 7, 87, 0, 0, 0, 0) (yX7_enterLine, cX7_enterLine, none, RX7) := zOK_of2 (len := 64) zh87 zr87 (fun pc h => zguard h)
def zps88 : List (Nat × Nat) := [(2, 2014), (5, 2014), (10, 2016), (13, 2016), (20, 2014), (27, 2020), (32, 2020)]
set_option maxRecDepth 100000 in
theorem zr88 : zrowsB (yX7_copyPlaces, cX7_copyPlaces, none, RX7) zps88 zxi88 45 = true := by decide +kernel
set_option maxRecDepth 100000 in
theorem zhc88 : zheadC 88 (zxi88, 2, 3, 7, 88, 0, 0, 0, 0) (yX7_copyPlaces, cX7_copyPlaces, none, RX7) 0 1008 4239 76 = true := by decide +kernel
set_option maxRecDepth 100000 in
theorem zh88 : zheadB 88 (zxi88, 2, 3, 7, 88, 0, 0, 0, 0) (yX7_copyPlaces, cX7_copyPlaces, none, RX7) 0 5000 1008 4239 76 = true := zheadB_of rfl zhc88
theorem zm88 : zOK 88 (zxi88, 2, 3, 7, 88, 0, 0, 0, 0) (yX7_copyPlaces, cX7_copyPlaces, none, RX7) := zOK_of2 (len := 45) zh88 zr88 (fun pc h => zguard h)
def zps89 : List (Nat × Nat) := [(4, 2014), (11, 2020)]
set_option maxRecDepth 100000 in
theorem zr89 : zrowsB (yX7_bobbinIn, cX7_bobbinIn, some .int, RX7) zps89 zxi89 30 = true := by decide +kernel
set_option maxRecDepth 100000 in
theorem zhc89 : zheadC 89 (zxi89, 2, 3, 7, 89, 0, 0, 1, 0) (yX7_bobbinIn, cX7_bobbinIn, some .int, RX7) 0 1008 3218 40 = true := by decide +kernel
set_option maxRecDepth 100000 in
theorem zh89 : zheadB 89 (zxi89, 2, 3, 7, 89, 0, 0, 1, 0) (yX7_bobbinIn, cX7_bobbinIn, some .int, RX7) 0 3219 1008 3218 40 = true := zheadB_of rfl zhc89
theorem zm89 : zOK 89 (zxi89, 2, 3, 7, 89, 0, 0, 1, 0) (yX7_bobbinIn, cX7_bobbinIn, some .int, RX7) := zOK_of2 (len := 30) zh89 zr89 (fun pc h => zguard h)
