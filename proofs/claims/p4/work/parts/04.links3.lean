def zps354 : List (Nat × Nat) := [(2, 3063), (5, 3066)]
set_option maxRecDepth 100000 in
theorem zr354 : ∀ pc, pc < 9 → zrowB (yJ2_checkIndex_2214a, cJ2_checkIndex_2214a, none, RJ2) zps354 pc (zxi354 pc) = true := by decide +kernel
set_option maxRecDepth 100000 in
theorem zh354 : zheadB 354 (zxi354, 2, 2, 15, 354, 0, 0, 0, 0) (yJ2_checkIndex_2214a, cJ2_checkIndex_2214a, none, RJ2) 2 3062 1017 3061 0 = true := by decide +kernel
theorem zm354 : zOK 354 (zxi354, 2, 2, 15, 354, 0, 0, 0, 0) (yJ2_checkIndex_2214a, cJ2_checkIndex_2214a, none, RJ2) := zOK_of zh354 zr354 (fun pc h => zguard h)
def zps355 : List (Nat × Nat) := []
set_option maxRecDepth 100000 in
theorem zr355 : ∀ pc, pc < 18 → zrowB (yJ3_checkIndex_8e157, cJ3_checkIndex_8e157, some .int, RJ3) zps355 pc (zxi355 pc) = true := by decide +kernel
set_option maxRecDepth 100000 in
theorem zh355 : zheadB 355 (zxi355, 3, 3, 16, 355, 0, 0, 1, 0) (yJ3_checkIndex_8e157, cJ3_checkIndex_8e157, some .int, RJ3) 2 3056 1016 3055 0 = true := by decide +kernel
theorem zm355 : zOK 355 (zxi355, 3, 3, 16, 355, 0, 0, 1, 0) (yJ3_checkIndex_8e157, cJ3_checkIndex_8e157, some .int, RJ3) := zOK_of zh355 zr355 (fun pc h => zguard h)
theorem zc0 : ∀ (i : Nat) (en : zEn), zxMeta0[i]? = some en → ∃ me, zMeth0[i]? = some me ∧ zOK (0 + i) en me := by
  intro i en h
  match i, h with
  | 0, h => cases h; exact ⟨_, rfl, zm0⟩
  | 1, h => cases h; exact ⟨_, rfl, zm1⟩
  | 2, h => cases h; exact ⟨_, rfl, zm2⟩
  | 3, h => cases h; exact ⟨_, rfl, zm3⟩
  | 4, h => cases h; exact ⟨_, rfl, zm4⟩
  | 5, h => cases h; exact ⟨_, rfl, zm5⟩
  | 6, h => cases h; exact ⟨_, rfl, zm6⟩
  | 7, h => cases h; exact ⟨_, rfl, zm7⟩
  | i + 8, h => exact absurd h (by simp [zxMeta0])
theorem zc1 : ∀ (i : Nat) (en : zEn), zxMeta1[i]? = some en → ∃ me, zMeth1[i]? = some me ∧ zOK (8 + i) en me := by
  intro i en h
  match i, h with
  | 0, h => cases h; exact ⟨_, rfl, zm8⟩
  | 1, h => cases h; exact ⟨_, rfl, zm9⟩
  | 2, h => cases h; exact ⟨_, rfl, zm10⟩
  | 3, h => cases h; exact ⟨_, rfl, zm11⟩
  | 4, h => cases h; exact ⟨_, rfl, zm12⟩
  | 5, h => cases h; exact ⟨_, rfl, zm13⟩
  | 6, h => cases h; exact ⟨_, rfl, zm14⟩
  | 7, h => cases h; exact ⟨_, rfl, zm15⟩
  | i + 8, h => exact absurd h (by simp [zxMeta1])
theorem zc2 : ∀ (i : Nat) (en : zEn), zxMeta2[i]? = some en → ∃ me, zMeth2[i]? = some me ∧ zOK (16 + i) en me := by
  intro i en h
  match i, h with
  | 0, h => cases h; exact ⟨_, rfl, zm16⟩
  | 1, h => cases h; exact ⟨_, rfl, zm17⟩
  | 2, h => cases h; exact ⟨_, rfl, zm18⟩
  | 3, h => cases h; exact ⟨_, rfl, zm19⟩
  | 4, h => cases h; exact ⟨_, rfl, zm20⟩
  | 5, h => cases h; exact ⟨_, rfl, zm21⟩
  | 6, h => cases h; exact ⟨_, rfl, zm22⟩
  | 7, h => cases h; exact ⟨_, rfl, zm23⟩
  | i + 8, h => exact absurd h (by simp [zxMeta2])
theorem zc3 : ∀ (i : Nat) (en : zEn), zxMeta3[i]? = some en → ∃ me, zMeth3[i]? = some me ∧ zOK (24 + i) en me := by
  intro i en h
  match i, h with
  | 0, h => cases h; exact ⟨_, rfl, zm24⟩
  | 1, h => cases h; exact ⟨_, rfl, zm25⟩
  | 2, h => cases h; exact ⟨_, rfl, zm26⟩
  | 3, h => cases h; exact ⟨_, rfl, zm27⟩
  | 4, h => cases h; exact ⟨_, rfl, zm28⟩
  | 5, h => cases h; exact ⟨_, rfl, zm29⟩
  | 6, h => cases h; exact ⟨_, rfl, zm30⟩
  | 7, h => cases h; exact ⟨_, rfl, zm31⟩
  | i + 8, h => exact absurd h (by simp [zxMeta3])
theorem zc4 : ∀ (i : Nat) (en : zEn), zxMeta4[i]? = some en → ∃ me, zMeth4[i]? = some me ∧ zOK (32 + i) en me := by
  intro i en h
  match i, h with
  | 0, h => cases h; exact ⟨_, rfl, zm32⟩
  | 1, h => cases h; exact ⟨_, rfl, zm33⟩
  | 2, h => cases h; exact ⟨_, rfl, zm34⟩
  | 3, h => cases h; exact ⟨_, rfl, zm35⟩
  | 4, h => cases h; exact ⟨_, rfl, zm36⟩
  | 5, h => cases h; exact ⟨_, rfl, zm37⟩
  | 6, h => cases h; exact ⟨_, rfl, zm38⟩
  | 7, h => cases h; exact ⟨_, rfl, zm39⟩
  | i + 8, h => exact absurd h (by simp [zxMeta4])
theorem zc5 : ∀ (i : Nat) (en : zEn), zxMeta5[i]? = some en → ∃ me, zMeth5[i]? = some me ∧ zOK (40 + i) en me := by
  intro i en h
  match i, h with
  | 0, h => cases h; exact ⟨_, rfl, zm40⟩
  | 1, h => cases h; exact ⟨_, rfl, zm41⟩
  | 2, h => cases h; exact ⟨_, rfl, zm42⟩
  | 3, h => cases h; exact ⟨_, rfl, zm43⟩
  | 4, h => cases h; exact ⟨_, rfl, zm44⟩
  | 5, h => cases h; exact ⟨_, rfl, zm45⟩
  | 6, h => cases h; exact ⟨_, rfl, zm46⟩
  | 7, h => cases h; exact ⟨_, rfl, zm47⟩
  | i + 8, h => exact absurd h (by simp [zxMeta5])
theorem zc6 : ∀ (i : Nat) (en : zEn), zxMeta6[i]? = some en → ∃ me, zMeth6[i]? = some me ∧ zOK (48 + i) en me := by
  intro i en h
  match i, h with
  | 0, h => cases h; exact ⟨_, rfl, zm48⟩
  | 1, h => cases h; exact ⟨_, rfl, zm49⟩
  | 2, h => cases h; exact ⟨_, rfl, zm50⟩
  | 3, h => cases h; exact ⟨_, rfl, zm51⟩
  | 4, h => cases h; exact ⟨_, rfl, zm52⟩
  | 5, h => cases h; exact ⟨_, rfl, zm53⟩
  | 6, h => cases h; exact ⟨_, rfl, zm54⟩
  | 7, h => cases h; exact ⟨_, rfl, zm55⟩
  | i + 8, h => exact absurd h (by simp [zxMeta6])
theorem zc7 : ∀ (i : Nat) (en : zEn), zxMeta7[i]? = some en → ∃ me, zMeth7[i]? = some me ∧ zOK (56 + i) en me := by
  intro i en h
  match i, h with
  | 0, h => cases h; exact ⟨_, rfl, zm56⟩
  | 1, h => cases h; exact ⟨_, rfl, zm57⟩
  | 2, h => cases h; exact ⟨_, rfl, zm58⟩
  | 3, h => cases h; exact ⟨_, rfl, zm59⟩
  | 4, h => cases h; exact ⟨_, rfl, zm60⟩
  | 5, h => cases h; exact ⟨_, rfl, zm61⟩
  | 6, h => cases h; exact ⟨_, rfl, zm62⟩
  | 7, h => cases h; exact ⟨_, rfl, zm63⟩
  | i + 8, h => exact absurd h (by simp [zxMeta7])
theorem zc8 : ∀ (i : Nat) (en : zEn), zxMeta8[i]? = some en → ∃ me, zMeth8[i]? = some me ∧ zOK (64 + i) en me := by
  intro i en h
  match i, h with
  | 0, h => cases h; exact ⟨_, rfl, zm64⟩
  | 1, h => cases h; exact ⟨_, rfl, zm65⟩
  | 2, h => cases h; exact ⟨_, rfl, zm66⟩
  | 3, h => cases h; exact ⟨_, rfl, zm67⟩
  | 4, h => cases h; exact ⟨_, rfl, zm68⟩
  | 5, h => cases h; exact ⟨_, rfl, zm69⟩
  | 6, h => cases h; exact ⟨_, rfl, zm70⟩
  | 7, h => cases h; exact ⟨_, rfl, zm71⟩
  | i + 8, h => exact absurd h (by simp [zxMeta8])
theorem zc9 : ∀ (i : Nat) (en : zEn), zxMeta9[i]? = some en → ∃ me, zMeth9[i]? = some me ∧ zOK (72 + i) en me := by
  intro i en h
  match i, h with
  | 0, h => cases h; exact ⟨_, rfl, zm72⟩
  | 1, h => cases h; exact ⟨_, rfl, zm73⟩
  | 2, h => cases h; exact ⟨_, rfl, zm74⟩
  | 3, h => cases h; exact ⟨_, rfl, zm75⟩
  | 4, h => cases h; exact ⟨_, rfl, zm76⟩
  | 5, h => cases h; exact ⟨_, rfl, zm77⟩
  | 6, h => cases h; exact ⟨_, rfl, zm78⟩
  | 7, h => cases h; exact ⟨_, rfl, zm79⟩
  | i + 8, h => exact absurd h (by simp [zxMeta9])
theorem zc10 : ∀ (i : Nat) (en : zEn), zxMeta10[i]? = some en → ∃ me, zMeth10[i]? = some me ∧ zOK (80 + i) en me := by
  intro i en h
  match i, h with
  | 0, h => cases h; exact ⟨_, rfl, zm80⟩
  | 1, h => cases h; exact ⟨_, rfl, zm81⟩
  | 2, h => cases h; exact ⟨_, rfl, zm82⟩
  | 3, h => cases h; exact ⟨_, rfl, zm83⟩
  | 4, h => cases h; exact ⟨_, rfl, zm84⟩
  | 5, h => cases h; exact ⟨_, rfl, zm85⟩
  | 6, h => cases h; exact ⟨_, rfl, zm86⟩
  | 7, h => cases h; exact ⟨_, rfl, zm87⟩
  | i + 8, h => exact absurd h (by simp [zxMeta10])
theorem zc11 : ∀ (i : Nat) (en : zEn), zxMeta11[i]? = some en → ∃ me, zMeth11[i]? = some me ∧ zOK (88 + i) en me := by
  intro i en h
  match i, h with
  | 0, h => cases h; exact ⟨_, rfl, zm88⟩
  | 1, h => cases h; exact ⟨_, rfl, zm89⟩
  | 2, h => cases h; exact ⟨_, rfl, zm90⟩
  | 3, h => cases h; exact ⟨_, rfl, zm91⟩
  | 4, h => cases h; exact ⟨_, rfl, zm92⟩
  | 5, h => cases h; exact ⟨_, rfl, zm93⟩
  | 6, h => cases h; exact ⟨_, rfl, zm94⟩
  | 7, h => cases h; exact ⟨_, rfl, zm95⟩
  | i + 8, h => exact absurd h (by simp [zxMeta11])
theorem zc12 : ∀ (i : Nat) (en : zEn), zxMeta12[i]? = some en → ∃ me, zMeth12[i]? = some me ∧ zOK (96 + i) en me := by
  intro i en h
  match i, h with
  | 0, h => cases h; exact ⟨_, rfl, zm96⟩
  | 1, h => cases h; exact ⟨_, rfl, zm97⟩
  | 2, h => cases h; exact ⟨_, rfl, zm98⟩
  | 3, h => cases h; exact ⟨_, rfl, zm99⟩
  | 4, h => cases h; exact ⟨_, rfl, zm100⟩
  | 5, h => cases h; exact ⟨_, rfl, zm101⟩
  | 6, h => cases h; exact ⟨_, rfl, zm102⟩
  | 7, h => cases h; exact ⟨_, rfl, zm103⟩
  | i + 8, h => exact absurd h (by simp [zxMeta12])
theorem zc13 : ∀ (i : Nat) (en : zEn), zxMeta13[i]? = some en → ∃ me, zMeth13[i]? = some me ∧ zOK (104 + i) en me := by
  intro i en h
  match i, h with
  | 0, h => cases h; exact ⟨_, rfl, zm104⟩
  | 1, h => cases h; exact ⟨_, rfl, zm105⟩
  | 2, h => cases h; exact ⟨_, rfl, zm106⟩
  | 3, h => cases h; exact ⟨_, rfl, zm107⟩
  | 4, h => cases h; exact ⟨_, rfl, zm108⟩
  | 5, h => cases h; exact ⟨_, rfl, zm109⟩
  | 6, h => cases h; exact ⟨_, rfl, zm110⟩
  | 7, h => cases h; exact ⟨_, rfl, zm111⟩
  | i + 8, h => exact absurd h (by simp [zxMeta13])
theorem zc14 : ∀ (i : Nat) (en : zEn), zxMeta14[i]? = some en → ∃ me, zMeth14[i]? = some me ∧ zOK (112 + i) en me := by
  intro i en h
  match i, h with
  | 0, h => cases h; exact ⟨_, rfl, zm112⟩
  | 1, h => cases h; exact ⟨_, rfl, zm113⟩
  | 2, h => cases h; exact ⟨_, rfl, zm114⟩
  | 3, h => cases h; exact ⟨_, rfl, zm115⟩
  | 4, h => cases h; exact ⟨_, rfl, zm116⟩
  | 5, h => cases h; exact ⟨_, rfl, zm117⟩
  | 6, h => cases h; exact ⟨_, rfl, zm118⟩
  | 7, h => cases h; exact ⟨_, rfl, zm119⟩
  | i + 8, h => exact absurd h (by simp [zxMeta14])
theorem zc15 : ∀ (i : Nat) (en : zEn), zxMeta15[i]? = some en → ∃ me, zMeth15[i]? = some me ∧ zOK (120 + i) en me := by
  intro i en h
  match i, h with
  | 0, h => cases h; exact ⟨_, rfl, zm120⟩
  | 1, h => cases h; exact ⟨_, rfl, zm121⟩
  | 2, h => cases h; exact ⟨_, rfl, zm122⟩
  | 3, h => cases h; exact ⟨_, rfl, zm123⟩
  | 4, h => cases h; exact ⟨_, rfl, zm124⟩
  | 5, h => cases h; exact ⟨_, rfl, zm125⟩
  | 6, h => cases h; exact ⟨_, rfl, zm126⟩
  | 7, h => cases h; exact ⟨_, rfl, zm127⟩
  | i + 8, h => exact absurd h (by simp [zxMeta15])
theorem zc16 : ∀ (i : Nat) (en : zEn), zxMeta16[i]? = some en → ∃ me, zMeth16[i]? = some me ∧ zOK (128 + i) en me := by
  intro i en h
  match i, h with
  | 0, h => cases h; exact ⟨_, rfl, zm128⟩
  | 1, h => cases h; exact ⟨_, rfl, zm129⟩
  | 2, h => cases h; exact ⟨_, rfl, zm130⟩
  | 3, h => cases h; exact ⟨_, rfl, zm131⟩
  | 4, h => cases h; exact ⟨_, rfl, zm132⟩
  | 5, h => cases h; exact ⟨_, rfl, zm133⟩
  | 6, h => cases h; exact ⟨_, rfl, zm134⟩
  | 7, h => cases h; exact ⟨_, rfl, zm135⟩
  | i + 8, h => exact absurd h (by simp [zxMeta16])
theorem zc17 : ∀ (i : Nat) (en : zEn), zxMeta17[i]? = some en → ∃ me, zMeth17[i]? = some me ∧ zOK (136 + i) en me := by
  intro i en h
  match i, h with
  | 0, h => cases h; exact ⟨_, rfl, zm136⟩
  | 1, h => cases h; exact ⟨_, rfl, zm137⟩
  | 2, h => cases h; exact ⟨_, rfl, zm138⟩
  | 3, h => cases h; exact ⟨_, rfl, zm139⟩
  | 4, h => cases h; exact ⟨_, rfl, zm140⟩
  | 5, h => cases h; exact ⟨_, rfl, zm141⟩
  | 6, h => cases h; exact ⟨_, rfl, zm142⟩
  | 7, h => cases h; exact ⟨_, rfl, zm143⟩
  | i + 8, h => exact absurd h (by simp [zxMeta17])
theorem zc18 : ∀ (i : Nat) (en : zEn), zxMeta18[i]? = some en → ∃ me, zMeth18[i]? = some me ∧ zOK (144 + i) en me := by
  intro i en h
  match i, h with
  | 0, h => cases h; exact ⟨_, rfl, zm144⟩
  | 1, h => cases h; exact ⟨_, rfl, zm145⟩
  | 2, h => cases h; exact ⟨_, rfl, zm146⟩
  | 3, h => cases h; exact ⟨_, rfl, zm147⟩
  | 4, h => cases h; exact ⟨_, rfl, zm148⟩
  | 5, h => cases h; exact ⟨_, rfl, zm149⟩
  | 6, h => cases h; exact ⟨_, rfl, zm150⟩
  | 7, h => cases h; exact ⟨_, rfl, zm151⟩
  | i + 8, h => exact absurd h (by simp [zxMeta18])
theorem zc19 : ∀ (i : Nat) (en : zEn), zxMeta19[i]? = some en → ∃ me, zMeth19[i]? = some me ∧ zOK (152 + i) en me := by
  intro i en h
  match i, h with
  | 0, h => cases h; exact ⟨_, rfl, zm152⟩
  | 1, h => cases h; exact ⟨_, rfl, zm153⟩
  | 2, h => cases h; exact ⟨_, rfl, zm154⟩
  | 3, h => cases h; exact ⟨_, rfl, zm155⟩
  | 4, h => cases h; exact ⟨_, rfl, zm156⟩
  | 5, h => cases h; exact ⟨_, rfl, zm157⟩
  | 6, h => cases h; exact ⟨_, rfl, zm158⟩
  | 7, h => cases h; exact ⟨_, rfl, zm159⟩
  | i + 8, h => exact absurd h (by simp [zxMeta19])
theorem zc20 : ∀ (i : Nat) (en : zEn), zxMeta20[i]? = some en → ∃ me, zMeth20[i]? = some me ∧ zOK (160 + i) en me := by
  intro i en h
  match i, h with
  | 0, h => cases h; exact ⟨_, rfl, zm160⟩
  | 1, h => cases h; exact ⟨_, rfl, zm161⟩
  | 2, h => cases h; exact ⟨_, rfl, zm162⟩
  | 3, h => cases h; exact ⟨_, rfl, zm163⟩
  | 4, h => cases h; exact ⟨_, rfl, zm164⟩
  | 5, h => cases h; exact ⟨_, rfl, zm165⟩
  | 6, h => cases h; exact ⟨_, rfl, zm166⟩
  | 7, h => cases h; exact ⟨_, rfl, zm167⟩
  | i + 8, h => exact absurd h (by simp [zxMeta20])
theorem zc21 : ∀ (i : Nat) (en : zEn), zxMeta21[i]? = some en → ∃ me, zMeth21[i]? = some me ∧ zOK (168 + i) en me := by
  intro i en h
  match i, h with
  | 0, h => cases h; exact ⟨_, rfl, zm168⟩
  | 1, h => cases h; exact ⟨_, rfl, zm169⟩
  | 2, h => cases h; exact ⟨_, rfl, zm170⟩
  | 3, h => cases h; exact ⟨_, rfl, zm171⟩
  | 4, h => cases h; exact ⟨_, rfl, zm172⟩
  | 5, h => cases h; exact ⟨_, rfl, zm173⟩
  | 6, h => cases h; exact ⟨_, rfl, zm174⟩
  | 7, h => cases h; exact ⟨_, rfl, zm175⟩
  | i + 8, h => exact absurd h (by simp [zxMeta21])
theorem zc22 : ∀ (i : Nat) (en : zEn), zxMeta22[i]? = some en → ∃ me, zMeth22[i]? = some me ∧ zOK (176 + i) en me := by
  intro i en h
  match i, h with
  | 0, h => cases h; exact ⟨_, rfl, zm176⟩
  | 1, h => cases h; exact ⟨_, rfl, zm177⟩
  | 2, h => cases h; exact ⟨_, rfl, zm178⟩
  | 3, h => cases h; exact ⟨_, rfl, zm179⟩
  | 4, h => cases h; exact ⟨_, rfl, zm180⟩
  | 5, h => cases h; exact ⟨_, rfl, zm181⟩
  | 6, h => cases h; exact ⟨_, rfl, zm182⟩
  | 7, h => cases h; exact ⟨_, rfl, zm183⟩
  | i + 8, h => exact absurd h (by simp [zxMeta22])
theorem zc23 : ∀ (i : Nat) (en : zEn), zxMeta23[i]? = some en → ∃ me, zMeth23[i]? = some me ∧ zOK (184 + i) en me := by
  intro i en h
  match i, h with
  | 0, h => cases h; exact ⟨_, rfl, zm184⟩
  | 1, h => cases h; exact ⟨_, rfl, zm185⟩
  | 2, h => cases h; exact ⟨_, rfl, zm186⟩
  | 3, h => cases h; exact ⟨_, rfl, zm187⟩
  | 4, h => cases h; exact ⟨_, rfl, zm188⟩
  | 5, h => cases h; exact ⟨_, rfl, zm189⟩
  | 6, h => cases h; exact ⟨_, rfl, zm190⟩
  | 7, h => cases h; exact ⟨_, rfl, zm191⟩
  | i + 8, h => exact absurd h (by simp [zxMeta23])
theorem zc24 : ∀ (i : Nat) (en : zEn), zxMeta24[i]? = some en → ∃ me, zMeth24[i]? = some me ∧ zOK (192 + i) en me := by
  intro i en h
  match i, h with
  | 0, h => cases h; exact ⟨_, rfl, zm192⟩
  | 1, h => cases h; exact ⟨_, rfl, zm193⟩
  | 2, h => cases h; exact ⟨_, rfl, zm194⟩
  | 3, h => cases h; exact ⟨_, rfl, zm195⟩
  | 4, h => cases h; exact ⟨_, rfl, zm196⟩
  | 5, h => cases h; exact ⟨_, rfl, zm197⟩
  | 6, h => cases h; exact ⟨_, rfl, zm198⟩
  | 7, h => cases h; exact ⟨_, rfl, zm199⟩
  | i + 8, h => exact absurd h (by simp [zxMeta24])
theorem zc25 : ∀ (i : Nat) (en : zEn), zxMeta25[i]? = some en → ∃ me, zMeth25[i]? = some me ∧ zOK (200 + i) en me := by
  intro i en h
  match i, h with
  | 0, h => cases h; exact ⟨_, rfl, zm200⟩
  | 1, h => cases h; exact ⟨_, rfl, zm201⟩
  | 2, h => cases h; exact ⟨_, rfl, zm202⟩
  | 3, h => cases h; exact ⟨_, rfl, zm203⟩
  | 4, h => cases h; exact ⟨_, rfl, zm204⟩
  | 5, h => cases h; exact ⟨_, rfl, zm205⟩
  | 6, h => cases h; exact ⟨_, rfl, zm206⟩
  | 7, h => cases h; exact ⟨_, rfl, zm207⟩
  | i + 8, h => exact absurd h (by simp [zxMeta25])
theorem zc26 : ∀ (i : Nat) (en : zEn), zxMeta26[i]? = some en → ∃ me, zMeth26[i]? = some me ∧ zOK (208 + i) en me := by
  intro i en h
  match i, h with
  | 0, h => cases h; exact ⟨_, rfl, zm208⟩
  | 1, h => cases h; exact ⟨_, rfl, zm209⟩
  | 2, h => cases h; exact ⟨_, rfl, zm210⟩
  | 3, h => cases h; exact ⟨_, rfl, zm211⟩
  | 4, h => cases h; exact ⟨_, rfl, zm212⟩
  | 5, h => cases h; exact ⟨_, rfl, zm213⟩
  | 6, h => cases h; exact ⟨_, rfl, zm214⟩
  | 7, h => cases h; exact ⟨_, rfl, zm215⟩
  | i + 8, h => exact absurd h (by simp [zxMeta26])
theorem zc27 : ∀ (i : Nat) (en : zEn), zxMeta27[i]? = some en → ∃ me, zMeth27[i]? = some me ∧ zOK (216 + i) en me := by
  intro i en h
  match i, h with
  | 0, h => cases h; exact ⟨_, rfl, zm216⟩
  | 1, h => cases h; exact ⟨_, rfl, zm217⟩
  | 2, h => cases h; exact ⟨_, rfl, zm218⟩
  | 3, h => cases h; exact ⟨_, rfl, zm219⟩
  | 4, h => cases h; exact ⟨_, rfl, zm220⟩
  | 5, h => cases h; exact ⟨_, rfl, zm221⟩
  | 6, h => cases h; exact ⟨_, rfl, zm222⟩
  | 7, h => cases h; exact ⟨_, rfl, zm223⟩
  | i + 8, h => exact absurd h (by simp [zxMeta27])
theorem zc28 : ∀ (i : Nat) (en : zEn), zxMeta28[i]? = some en → ∃ me, zMeth28[i]? = some me ∧ zOK (224 + i) en me := by
  intro i en h
  match i, h with
  | 0, h => cases h; exact ⟨_, rfl, zm224⟩
  | 1, h => cases h; exact ⟨_, rfl, zm225⟩
  | 2, h => cases h; exact ⟨_, rfl, zm226⟩
  | 3, h => cases h; exact ⟨_, rfl, zm227⟩
  | 4, h => cases h; exact ⟨_, rfl, zm228⟩
  | 5, h => cases h; exact ⟨_, rfl, zm229⟩
  | 6, h => cases h; exact ⟨_, rfl, zm230⟩
  | 7, h => cases h; exact ⟨_, rfl, zm231⟩
  | i + 8, h => exact absurd h (by simp [zxMeta28])
theorem zc29 : ∀ (i : Nat) (en : zEn), zxMeta29[i]? = some en → ∃ me, zMeth29[i]? = some me ∧ zOK (232 + i) en me := by
  intro i en h
  match i, h with
  | 0, h => cases h; exact ⟨_, rfl, zm232⟩
  | 1, h => cases h; exact ⟨_, rfl, zm233⟩
  | 2, h => cases h; exact ⟨_, rfl, zm234⟩
  | 3, h => cases h; exact ⟨_, rfl, zm235⟩
  | 4, h => cases h; exact ⟨_, rfl, zm236⟩
  | 5, h => cases h; exact ⟨_, rfl, zm237⟩
  | 6, h => cases h; exact ⟨_, rfl, zm238⟩
  | 7, h => cases h; exact ⟨_, rfl, zm239⟩
  | i + 8, h => exact absurd h (by simp [zxMeta29])
theorem zc30 : ∀ (i : Nat) (en : zEn), zxMeta30[i]? = some en → ∃ me, zMeth30[i]? = some me ∧ zOK (240 + i) en me := by
  intro i en h
  match i, h with
  | 0, h => cases h; exact ⟨_, rfl, zm240⟩
  | 1, h => cases h; exact ⟨_, rfl, zm241⟩
  | 2, h => cases h; exact ⟨_, rfl, zm242⟩
  | 3, h => cases h; exact ⟨_, rfl, zm243⟩
  | 4, h => cases h; exact ⟨_, rfl, zm244⟩
  | 5, h => cases h; exact ⟨_, rfl, zm245⟩
  | 6, h => cases h; exact ⟨_, rfl, zm246⟩
  | 7, h => cases h; exact ⟨_, rfl, zm247⟩
  | i + 8, h => exact absurd h (by simp [zxMeta30])
theorem zc31 : ∀ (i : Nat) (en : zEn), zxMeta31[i]? = some en → ∃ me, zMeth31[i]? = some me ∧ zOK (248 + i) en me := by
  intro i en h
  match i, h with
  | 0, h => cases h; exact ⟨_, rfl, zm248⟩
  | 1, h => cases h; exact ⟨_, rfl, zm249⟩
  | 2, h => cases h; exact ⟨_, rfl, zm250⟩
  | 3, h => cases h; exact ⟨_, rfl, zm251⟩
  | 4, h => cases h; exact ⟨_, rfl, zm252⟩
  | 5, h => cases h; exact ⟨_, rfl, zm253⟩
  | 6, h => cases h; exact ⟨_, rfl, zm254⟩
  | 7, h => cases h; exact ⟨_, rfl, zm255⟩
  | i + 8, h => exact absurd h (by simp [zxMeta31])
theorem zc32 : ∀ (i : Nat) (en : zEn), zxMeta32[i]? = some en → ∃ me, zMeth32[i]? = some me ∧ zOK (256 + i) en me := by
  intro i en h
  match i, h with
  | 0, h => cases h; exact ⟨_, rfl, zm256⟩
  | 1, h => cases h; exact ⟨_, rfl, zm257⟩
  | 2, h => cases h; exact ⟨_, rfl, zm258⟩
  | 3, h => cases h; exact ⟨_, rfl, zm259⟩
  | 4, h => cases h; exact ⟨_, rfl, zm260⟩
  | 5, h => cases h; exact ⟨_, rfl, zm261⟩
  | 6, h => cases h; exact ⟨_, rfl, zm262⟩
  | 7, h => cases h; exact ⟨_, rfl, zm263⟩
  | i + 8, h => exact absurd h (by simp [zxMeta32])
theorem zc33 : ∀ (i : Nat) (en : zEn), zxMeta33[i]? = some en → ∃ me, zMeth33[i]? = some me ∧ zOK (264 + i) en me := by
  intro i en h
  match i, h with
  | 0, h => cases h; exact ⟨_, rfl, zm264⟩
  | 1, h => cases h; exact ⟨_, rfl, zm265⟩
  | 2, h => cases h; exact ⟨_, rfl, zm266⟩
  | 3, h => cases h; exact ⟨_, rfl, zm267⟩
  | 4, h => cases h; exact ⟨_, rfl, zm268⟩
  | 5, h => cases h; exact ⟨_, rfl, zm269⟩
  | 6, h => cases h; exact ⟨_, rfl, zm270⟩
  | 7, h => cases h; exact ⟨_, rfl, zm271⟩
  | i + 8, h => exact absurd h (by simp [zxMeta33])
theorem zc34 : ∀ (i : Nat) (en : zEn), zxMeta34[i]? = some en → ∃ me, zMeth34[i]? = some me ∧ zOK (272 + i) en me := by
  intro i en h
  match i, h with
  | 0, h => cases h; exact ⟨_, rfl, zm272⟩
  | 1, h => cases h; exact ⟨_, rfl, zm273⟩
  | 2, h => cases h; exact ⟨_, rfl, zm274⟩
  | 3, h => cases h; exact ⟨_, rfl, zm275⟩
  | 4, h => cases h; exact ⟨_, rfl, zm276⟩
  | 5, h => cases h; exact ⟨_, rfl, zm277⟩
  | 6, h => cases h; exact ⟨_, rfl, zm278⟩
  | 7, h => cases h; exact ⟨_, rfl, zm279⟩
  | i + 8, h => exact absurd h (by simp [zxMeta34])
theorem zc35 : ∀ (i : Nat) (en : zEn), zxMeta35[i]? = some en → ∃ me, zMeth35[i]? = some me ∧ zOK (280 + i) en me := by
  intro i en h
  match i, h with
  | 0, h => cases h; exact ⟨_, rfl, zm280⟩
  | 1, h => cases h; exact ⟨_, rfl, zm281⟩
  | 2, h => cases h; exact ⟨_, rfl, zm282⟩
  | 3, h => cases h; exact ⟨_, rfl, zm283⟩
  | 4, h => cases h; exact ⟨_, rfl, zm284⟩
  | 5, h => cases h; exact ⟨_, rfl, zm285⟩
  | 6, h => cases h; exact ⟨_, rfl, zm286⟩
  | 7, h => cases h; exact ⟨_, rfl, zm287⟩
  | i + 8, h => exact absurd h (by simp [zxMeta35])
theorem zc36 : ∀ (i : Nat) (en : zEn), zxMeta36[i]? = some en → ∃ me, zMeth36[i]? = some me ∧ zOK (288 + i) en me := by
  intro i en h
  match i, h with
  | 0, h => cases h; exact ⟨_, rfl, zm288⟩
  | 1, h => cases h; exact ⟨_, rfl, zm289⟩
  | 2, h => cases h; exact ⟨_, rfl, zm290⟩
  | 3, h => cases h; exact ⟨_, rfl, zm291⟩
  | 4, h => cases h; exact ⟨_, rfl, zm292⟩
  | 5, h => cases h; exact ⟨_, rfl, zm293⟩
  | 6, h => cases h; exact ⟨_, rfl, zm294⟩
  | 7, h => cases h; exact ⟨_, rfl, zm295⟩
  | i + 8, h => exact absurd h (by simp [zxMeta36])
theorem zc37 : ∀ (i : Nat) (en : zEn), zxMeta37[i]? = some en → ∃ me, zMeth37[i]? = some me ∧ zOK (296 + i) en me := by
  intro i en h
  match i, h with
  | 0, h => cases h; exact ⟨_, rfl, zm296⟩
  | 1, h => cases h; exact ⟨_, rfl, zm297⟩
  | 2, h => cases h; exact ⟨_, rfl, zm298⟩
  | 3, h => cases h; exact ⟨_, rfl, zm299⟩
  | 4, h => cases h; exact ⟨_, rfl, zm300⟩
  | 5, h => cases h; exact ⟨_, rfl, zm301⟩
  | 6, h => cases h; exact ⟨_, rfl, zm302⟩
  | 7, h => cases h; exact ⟨_, rfl, zm303⟩
  | i + 8, h => exact absurd h (by simp [zxMeta37])
theorem zc38 : ∀ (i : Nat) (en : zEn), zxMeta38[i]? = some en → ∃ me, zMeth38[i]? = some me ∧ zOK (304 + i) en me := by
  intro i en h
  match i, h with
  | 0, h => cases h; exact ⟨_, rfl, zm304⟩
  | 1, h => cases h; exact ⟨_, rfl, zm305⟩
  | 2, h => cases h; exact ⟨_, rfl, zm306⟩
  | 3, h => cases h; exact ⟨_, rfl, zm307⟩
  | 4, h => cases h; exact ⟨_, rfl, zm308⟩
  | 5, h => cases h; exact ⟨_, rfl, zm309⟩
  | 6, h => cases h; exact ⟨_, rfl, zm310⟩
  | 7, h => cases h; exact ⟨_, rfl, zm311⟩
  | i + 8, h => exact absurd h (by simp [zxMeta38])
theorem zc39 : ∀ (i : Nat) (en : zEn), zxMeta39[i]? = some en → ∃ me, zMeth39[i]? = some me ∧ zOK (312 + i) en me := by
  intro i en h
  match i, h with
  | 0, h => cases h; exact ⟨_, rfl, zm312⟩
  | 1, h => cases h; exact ⟨_, rfl, zm313⟩
  | 2, h => cases h; exact ⟨_, rfl, zm314⟩
  | 3, h => cases h; exact ⟨_, rfl, zm315⟩
  | 4, h => cases h; exact ⟨_, rfl, zm316⟩
  | 5, h => cases h; exact ⟨_, rfl, zm317⟩
  | 6, h => cases h; exact ⟨_, rfl, zm318⟩
  | 7, h => cases h; exact ⟨_, rfl, zm319⟩
  | i + 8, h => exact absurd h (by simp [zxMeta39])
theorem zc40 : ∀ (i : Nat) (en : zEn), zxMeta40[i]? = some en → ∃ me, zMeth40[i]? = some me ∧ zOK (320 + i) en me := by
  intro i en h
  match i, h with
  | 0, h => cases h; exact ⟨_, rfl, zm320⟩
  | 1, h => cases h; exact ⟨_, rfl, zm321⟩
  | 2, h => cases h; exact ⟨_, rfl, zm322⟩
  | 3, h => cases h; exact ⟨_, rfl, zm323⟩
  | 4, h => cases h; exact ⟨_, rfl, zm324⟩
  | 5, h => cases h; exact ⟨_, rfl, zm325⟩
  | 6, h => cases h; exact ⟨_, rfl, zm326⟩
  | 7, h => cases h; exact ⟨_, rfl, zm327⟩
  | i + 8, h => exact absurd h (by simp [zxMeta40])
theorem zc41 : ∀ (i : Nat) (en : zEn), zxMeta41[i]? = some en → ∃ me, zMeth41[i]? = some me ∧ zOK (328 + i) en me := by
  intro i en h
  match i, h with
  | 0, h => cases h; exact ⟨_, rfl, zm328⟩
  | 1, h => cases h; exact ⟨_, rfl, zm329⟩
  | 2, h => cases h; exact ⟨_, rfl, zm330⟩
  | 3, h => cases h; exact ⟨_, rfl, zm331⟩
  | 4, h => cases h; exact ⟨_, rfl, zm332⟩
  | 5, h => cases h; exact ⟨_, rfl, zm333⟩
  | 6, h => cases h; exact ⟨_, rfl, zm334⟩
  | 7, h => cases h; exact ⟨_, rfl, zm335⟩
  | i + 8, h => exact absurd h (by simp [zxMeta41])
theorem zc42 : ∀ (i : Nat) (en : zEn), zxMeta42[i]? = some en → ∃ me, zMeth42[i]? = some me ∧ zOK (336 + i) en me := by
  intro i en h
  match i, h with
  | 0, h => cases h; exact ⟨_, rfl, zm336⟩
  | 1, h => cases h; exact ⟨_, rfl, zm337⟩
  | 2, h => cases h; exact ⟨_, rfl, zm338⟩
  | 3, h => cases h; exact ⟨_, rfl, zm339⟩
  | 4, h => cases h; exact ⟨_, rfl, zm340⟩
  | 5, h => cases h; exact ⟨_, rfl, zm341⟩
  | 6, h => cases h; exact ⟨_, rfl, zm342⟩
  | 7, h => cases h; exact ⟨_, rfl, zm343⟩
  | i + 8, h => exact absurd h (by simp [zxMeta42])
theorem zc43 : ∀ (i : Nat) (en : zEn), zxMeta43[i]? = some en → ∃ me, zMeth43[i]? = some me ∧ zOK (344 + i) en me := by
  intro i en h
  match i, h with
  | 0, h => cases h; exact ⟨_, rfl, zm344⟩
  | 1, h => cases h; exact ⟨_, rfl, zm345⟩
  | 2, h => cases h; exact ⟨_, rfl, zm346⟩
  | 3, h => cases h; exact ⟨_, rfl, zm347⟩
  | 4, h => cases h; exact ⟨_, rfl, zm348⟩
  | 5, h => cases h; exact ⟨_, rfl, zm349⟩
  | 6, h => cases h; exact ⟨_, rfl, zm350⟩
  | 7, h => cases h; exact ⟨_, rfl, zm351⟩
  | i + 8, h => exact absurd h (by simp [zxMeta43])
theorem zc44 : ∀ (i : Nat) (en : zEn), zxMeta44[i]? = some en → ∃ me, zMeth44[i]? = some me ∧ zOK (352 + i) en me := by
  intro i en h
  match i, h with
  | 0, h => cases h; exact ⟨_, rfl, zm352⟩
  | 1, h => cases h; exact ⟨_, rfl, zm353⟩
  | 2, h => cases h; exact ⟨_, rfl, zm354⟩
  | 3, h => cases h; exact ⟨_, rfl, zm355⟩
  | i + 4, h => exact absurd h (by simp [zxMeta44])
theorem zd0 : ∀ (u i : Nat) (a : List zEn) (en : zEn), [zxMeta0, zxMeta1, zxMeta2, zxMeta3, zxMeta4, zxMeta5, zxMeta6, zxMeta7][u]? = some a → a[i]? = some en → ∃ b me, [zMeth0, zMeth1, zMeth2, zMeth3, zMeth4, zMeth5, zMeth6, zMeth7][u]? = some b ∧ b[i]? = some me ∧ zOK (0 + 8 * u + i) en me := by
  intro u i a en h1 h2
  match u, h1 with
  | 0, h1 => cases h1; obtain ⟨me, g1, g2⟩ := zc0 i en h2; exact ⟨_, me, rfl, g1, g2⟩
  | 1, h1 => cases h1; obtain ⟨me, g1, g2⟩ := zc1 i en h2; exact ⟨_, me, rfl, g1, g2⟩
  | 2, h1 => cases h1; obtain ⟨me, g1, g2⟩ := zc2 i en h2; exact ⟨_, me, rfl, g1, g2⟩
  | 3, h1 => cases h1; obtain ⟨me, g1, g2⟩ := zc3 i en h2; exact ⟨_, me, rfl, g1, g2⟩
  | 4, h1 => cases h1; obtain ⟨me, g1, g2⟩ := zc4 i en h2; exact ⟨_, me, rfl, g1, g2⟩
  | 5, h1 => cases h1; obtain ⟨me, g1, g2⟩ := zc5 i en h2; exact ⟨_, me, rfl, g1, g2⟩
  | 6, h1 => cases h1; obtain ⟨me, g1, g2⟩ := zc6 i en h2; exact ⟨_, me, rfl, g1, g2⟩
  | 7, h1 => cases h1; obtain ⟨me, g1, g2⟩ := zc7 i en h2; exact ⟨_, me, rfl, g1, g2⟩
  | u + 8, h1 => exact absurd h1 (by simp)
theorem zd1 : ∀ (u i : Nat) (a : List zEn) (en : zEn), [zxMeta8, zxMeta9, zxMeta10, zxMeta11, zxMeta12, zxMeta13, zxMeta14, zxMeta15][u]? = some a → a[i]? = some en → ∃ b me, [zMeth8, zMeth9, zMeth10, zMeth11, zMeth12, zMeth13, zMeth14, zMeth15][u]? = some b ∧ b[i]? = some me ∧ zOK (64 + 8 * u + i) en me := by
  intro u i a en h1 h2
  match u, h1 with
  | 0, h1 => cases h1; obtain ⟨me, g1, g2⟩ := zc8 i en h2; exact ⟨_, me, rfl, g1, g2⟩
  | 1, h1 => cases h1; obtain ⟨me, g1, g2⟩ := zc9 i en h2; exact ⟨_, me, rfl, g1, g2⟩
  | 2, h1 => cases h1; obtain ⟨me, g1, g2⟩ := zc10 i en h2; exact ⟨_, me, rfl, g1, g2⟩
  | 3, h1 => cases h1; obtain ⟨me, g1, g2⟩ := zc11 i en h2; exact ⟨_, me, rfl, g1, g2⟩
  | 4, h1 => cases h1; obtain ⟨me, g1, g2⟩ := zc12 i en h2; exact ⟨_, me, rfl, g1, g2⟩
  | 5, h1 => cases h1; obtain ⟨me, g1, g2⟩ := zc13 i en h2; exact ⟨_, me, rfl, g1, g2⟩
  | 6, h1 => cases h1; obtain ⟨me, g1, g2⟩ := zc14 i en h2; exact ⟨_, me, rfl, g1, g2⟩
  | 7, h1 => cases h1; obtain ⟨me, g1, g2⟩ := zc15 i en h2; exact ⟨_, me, rfl, g1, g2⟩
  | u + 8, h1 => exact absurd h1 (by simp)
theorem zd2 : ∀ (u i : Nat) (a : List zEn) (en : zEn), [zxMeta16, zxMeta17, zxMeta18, zxMeta19, zxMeta20, zxMeta21, zxMeta22, zxMeta23][u]? = some a → a[i]? = some en → ∃ b me, [zMeth16, zMeth17, zMeth18, zMeth19, zMeth20, zMeth21, zMeth22, zMeth23][u]? = some b ∧ b[i]? = some me ∧ zOK (128 + 8 * u + i) en me := by
  intro u i a en h1 h2
  match u, h1 with
  | 0, h1 => cases h1; obtain ⟨me, g1, g2⟩ := zc16 i en h2; exact ⟨_, me, rfl, g1, g2⟩
  | 1, h1 => cases h1; obtain ⟨me, g1, g2⟩ := zc17 i en h2; exact ⟨_, me, rfl, g1, g2⟩
  | 2, h1 => cases h1; obtain ⟨me, g1, g2⟩ := zc18 i en h2; exact ⟨_, me, rfl, g1, g2⟩
  | 3, h1 => cases h1; obtain ⟨me, g1, g2⟩ := zc19 i en h2; exact ⟨_, me, rfl, g1, g2⟩
  | 4, h1 => cases h1; obtain ⟨me, g1, g2⟩ := zc20 i en h2; exact ⟨_, me, rfl, g1, g2⟩
  | 5, h1 => cases h1; obtain ⟨me, g1, g2⟩ := zc21 i en h2; exact ⟨_, me, rfl, g1, g2⟩
  | 6, h1 => cases h1; obtain ⟨me, g1, g2⟩ := zc22 i en h2; exact ⟨_, me, rfl, g1, g2⟩
  | 7, h1 => cases h1; obtain ⟨me, g1, g2⟩ := zc23 i en h2; exact ⟨_, me, rfl, g1, g2⟩
  | u + 8, h1 => exact absurd h1 (by simp)
theorem zd3 : ∀ (u i : Nat) (a : List zEn) (en : zEn), [zxMeta24, zxMeta25, zxMeta26, zxMeta27, zxMeta28, zxMeta29, zxMeta30, zxMeta31][u]? = some a → a[i]? = some en → ∃ b me, [zMeth24, zMeth25, zMeth26, zMeth27, zMeth28, zMeth29, zMeth30, zMeth31][u]? = some b ∧ b[i]? = some me ∧ zOK (192 + 8 * u + i) en me := by
  intro u i a en h1 h2
  match u, h1 with
  | 0, h1 => cases h1; obtain ⟨me, g1, g2⟩ := zc24 i en h2; exact ⟨_, me, rfl, g1, g2⟩
  | 1, h1 => cases h1; obtain ⟨me, g1, g2⟩ := zc25 i en h2; exact ⟨_, me, rfl, g1, g2⟩
  | 2, h1 => cases h1; obtain ⟨me, g1, g2⟩ := zc26 i en h2; exact ⟨_, me, rfl, g1, g2⟩
  | 3, h1 => cases h1; obtain ⟨me, g1, g2⟩ := zc27 i en h2; exact ⟨_, me, rfl, g1, g2⟩
  | 4, h1 => cases h1; obtain ⟨me, g1, g2⟩ := zc28 i en h2; exact ⟨_, me, rfl, g1, g2⟩
  | 5, h1 => cases h1; obtain ⟨me, g1, g2⟩ := zc29 i en h2; exact ⟨_, me, rfl, g1, g2⟩
  | 6, h1 => cases h1; obtain ⟨me, g1, g2⟩ := zc30 i en h2; exact ⟨_, me, rfl, g1, g2⟩
  | 7, h1 => cases h1; obtain ⟨me, g1, g2⟩ := zc31 i en h2; exact ⟨_, me, rfl, g1, g2⟩
  | u + 8, h1 => exact absurd h1 (by simp)
theorem zd4 : ∀ (u i : Nat) (a : List zEn) (en : zEn), [zxMeta32, zxMeta33, zxMeta34, zxMeta35, zxMeta36, zxMeta37, zxMeta38, zxMeta39][u]? = some a → a[i]? = some en → ∃ b me, [zMeth32, zMeth33, zMeth34, zMeth35, zMeth36, zMeth37, zMeth38, zMeth39][u]? = some b ∧ b[i]? = some me ∧ zOK (256 + 8 * u + i) en me := by
  intro u i a en h1 h2
  match u, h1 with
  | 0, h1 => cases h1; obtain ⟨me, g1, g2⟩ := zc32 i en h2; exact ⟨_, me, rfl, g1, g2⟩
  | 1, h1 => cases h1; obtain ⟨me, g1, g2⟩ := zc33 i en h2; exact ⟨_, me, rfl, g1, g2⟩
  | 2, h1 => cases h1; obtain ⟨me, g1, g2⟩ := zc34 i en h2; exact ⟨_, me, rfl, g1, g2⟩
  | 3, h1 => cases h1; obtain ⟨me, g1, g2⟩ := zc35 i en h2; exact ⟨_, me, rfl, g1, g2⟩
  | 4, h1 => cases h1; obtain ⟨me, g1, g2⟩ := zc36 i en h2; exact ⟨_, me, rfl, g1, g2⟩
  | 5, h1 => cases h1; obtain ⟨me, g1, g2⟩ := zc37 i en h2; exact ⟨_, me, rfl, g1, g2⟩
  | 6, h1 => cases h1; obtain ⟨me, g1, g2⟩ := zc38 i en h2; exact ⟨_, me, rfl, g1, g2⟩
  | 7, h1 => cases h1; obtain ⟨me, g1, g2⟩ := zc39 i en h2; exact ⟨_, me, rfl, g1, g2⟩
  | u + 8, h1 => exact absurd h1 (by simp)
theorem zd5 : ∀ (u i : Nat) (a : List zEn) (en : zEn), [zxMeta40, zxMeta41, zxMeta42, zxMeta43, zxMeta44][u]? = some a → a[i]? = some en → ∃ b me, [zMeth40, zMeth41, zMeth42, zMeth43, zMeth44][u]? = some b ∧ b[i]? = some me ∧ zOK (320 + 8 * u + i) en me := by
  intro u i a en h1 h2
  match u, h1 with
  | 0, h1 => cases h1; obtain ⟨me, g1, g2⟩ := zc40 i en h2; exact ⟨_, me, rfl, g1, g2⟩
  | 1, h1 => cases h1; obtain ⟨me, g1, g2⟩ := zc41 i en h2; exact ⟨_, me, rfl, g1, g2⟩
  | 2, h1 => cases h1; obtain ⟨me, g1, g2⟩ := zc42 i en h2; exact ⟨_, me, rfl, g1, g2⟩
  | 3, h1 => cases h1; obtain ⟨me, g1, g2⟩ := zc43 i en h2; exact ⟨_, me, rfl, g1, g2⟩
  | 4, h1 => cases h1; obtain ⟨me, g1, g2⟩ := zc44 i en h2; exact ⟨_, me, rfl, g1, g2⟩
  | u + 5, h1 => exact absurd h1 (by simp)
theorem zG_iff {α : Type} {c : List (List (List α))} {j : Nat} {x : α} (h : zG c j = some x) : ∃ b a, c[j / 64]? = some b ∧ b[j / 8 % 8]? = some a ∧ a[j % 8]? = some x := by
  unfold zG at h
  cases h1 : c[j / 64]? with
  | none => rw [h1] at h; cases h
  | some b =>
    rw [h1, Option.bind_some] at h
    cases h2 : b[j / 8 % 8]? with
    | none => rw [h2] at h; cases h
    | some a =>
      rw [h2, Option.bind_some] at h
      exact ⟨b, a, rfl, h2, h⟩
/-- EVERY METHOD of the tables is the code's -/
theorem zall {y : Nat} {en : zEn} (h : zG zxMeta y = some en) : ∃ me, zG zMeth y = some me ∧ zOK y en me := by
  obtain ⟨b, a, h1, h2, h3⟩ := zG_iff h
  have e : 64 * (y / 64) + 8 * (y / 8 % 8) + y % 8 = y := by omega
  rw [← e]
  have key : ∃ b2 a2 me, zMeth[y / 64]? = some b2 ∧ b2[y / 8 % 8]? = some a2 ∧ a2[y % 8]? = some me ∧ zOK (64 * (y / 64) + 8 * (y / 8 % 8) + y % 8) en me := by
    generalize y / 64 = t at h1 ⊢
    match t, h1 with
    | 0, h1 => cases h1; obtain ⟨b3, me, q1, q2, q3⟩ := zd0 _ _ _ en h2 h3; exact ⟨_, b3, me, rfl, q1, q2, q3⟩
    | 1, h1 => cases h1; obtain ⟨b3, me, q1, q2, q3⟩ := zd1 _ _ _ en h2 h3; exact ⟨_, b3, me, rfl, q1, q2, q3⟩
    | 2, h1 => cases h1; obtain ⟨b3, me, q1, q2, q3⟩ := zd2 _ _ _ en h2 h3; exact ⟨_, b3, me, rfl, q1, q2, q3⟩
    | 3, h1 => cases h1; obtain ⟨b3, me, q1, q2, q3⟩ := zd3 _ _ _ en h2 h3; exact ⟨_, b3, me, rfl, q1, q2, q3⟩
    | 4, h1 => cases h1; obtain ⟨b3, me, q1, q2, q3⟩ := zd4 _ _ _ en h2 h3; exact ⟨_, b3, me, rfl, q1, q2, q3⟩
    | 5, h1 => cases h1; obtain ⟨b3, me, q1, q2, q3⟩ := zd5 _ _ _ en h2 h3; exact ⟨_, b3, me, rfl, q1, q2, q3⟩
    | t + 6, h1 => exact absurd h1 (by simp [zxMeta])
  obtain ⟨b2, a2, me, g1, g2, g3, g4⟩ := key
  refine ⟨me, ?_, g4⟩
  rw [e]
  unfold zG
  rw [g1, Option.bind_some, g2, Option.bind_some]
  exact g3
