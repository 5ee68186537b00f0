/-! WHAT EACH METHOD IS: 0 an instance's, 1 a constructor, 2 static, 3 the law -/
def zKi (g : Nat) (en : zEn) (me : zMe) : Prop := (en.2.2.2.2.2.2.2.2 = if g = 1 then en.2.2.2.1 + 1 else 0) ∧ (g = 1 → me.1.name = "<init>" ∧ me.2.2.1 = none) ∧
  (g = 3 ∨ ((me.1.cls ≠ "java/lang/invoke/MethodHandle" ∧ me.1.cls ≠ "java/lang/invoke/VarHandle") ∧ Cond.code me.1 me.2.1 en.2.2.1 me.2.2.1 ∈ lw_tbl ∧ Cond.initialized me.1.cls ∈ lw_tbl ∧ (if g = 2 then Cond.static me.1 else Cond.instanceMethod me.1) ∈ lw_tbl ∧ (g = 0 → Cond.selects me.1.cls me.1 me.1 ∈ lw_tbl) ∧
    (parseMethodDescriptor me.1.desc).map (fun d => d.parameters.length + (if g = 2 then 0 else 1)) = some en.2.1))
theorem zKi_of {y : Nat} {en : zEn} {me : zMe} {g p1 p2 p3 p4 : Nat} (h1 : zheadB y en me g p1 p2 p3 p4 = true) : zKi g en me := by
  unfold zheadB at h1
  simp only [Bool.and_eq_true, Bool.or_eq_true, decide_eq_true_eq] at h1
  obtain ⟨⟨⟨⟨⟨⟨⟨⟨a1, a2⟩, a3⟩, a4⟩, a5⟩, a6⟩, a7⟩, a8⟩, a9⟩ := h1
  refine ⟨a6, a7, ?_⟩
  rcases a9 with a9 | ⟨⟨⟨⟨⟨⟨b1, b2⟩, b3⟩, b4⟩, b5⟩, b6⟩, b7⟩
  · exact Or.inl a9
  · exact Or.inr ⟨⟨b1, b2⟩, zwd_mem b3, zwd_mem b4, zwd_mem b5, fun h => zwd_mem (b6 h), b7⟩
def zKd0 : List Nat := [3, 1, 0, 0, 0, 0, 0, 0]
theorem zkc0 : ∀ (i : Nat) (en : zEn) (g : Nat), zxMeta0[i]? = some en → zKd0[i]? = some g → ∃ me, zMeth0[i]? = some me ∧ zKi g en me := by
  intro i en g h h2
  match i, h, h2 with
  | 0, h, h2 => cases h; cases h2; exact ⟨_, rfl, zKi_of zh0⟩
  | 1, h, h2 => cases h; cases h2; exact ⟨_, rfl, zKi_of zh1⟩
  | 2, h, h2 => cases h; cases h2; exact ⟨_, rfl, zKi_of zh2⟩
  | 3, h, h2 => cases h; cases h2; exact ⟨_, rfl, zKi_of zh3⟩
  | 4, h, h2 => cases h; cases h2; exact ⟨_, rfl, zKi_of zh4⟩
  | 5, h, h2 => cases h; cases h2; exact ⟨_, rfl, zKi_of zh5⟩
  | 6, h, h2 => cases h; cases h2; exact ⟨_, rfl, zKi_of zh6⟩
  | 7, h, h2 => cases h; cases h2; exact ⟨_, rfl, zKi_of zh7⟩
  | i + 8, h, _ => exact absurd h (by simp [zxMeta0])
def zKd1 : List Nat := [0, 0, 0, 0, 0, 0, 0, 1]
theorem zkc1 : ∀ (i : Nat) (en : zEn) (g : Nat), zxMeta1[i]? = some en → zKd1[i]? = some g → ∃ me, zMeth1[i]? = some me ∧ zKi g en me := by
  intro i en g h h2
  match i, h, h2 with
  | 0, h, h2 => cases h; cases h2; exact ⟨_, rfl, zKi_of zh8⟩
  | 1, h, h2 => cases h; cases h2; exact ⟨_, rfl, zKi_of zh9⟩
  | 2, h, h2 => cases h; cases h2; exact ⟨_, rfl, zKi_of zh10⟩
  | 3, h, h2 => cases h; cases h2; exact ⟨_, rfl, zKi_of zh11⟩
  | 4, h, h2 => cases h; cases h2; exact ⟨_, rfl, zKi_of zh12⟩
  | 5, h, h2 => cases h; cases h2; exact ⟨_, rfl, zKi_of zh13⟩
  | 6, h, h2 => cases h; cases h2; exact ⟨_, rfl, zKi_of zh14⟩
  | 7, h, h2 => cases h; cases h2; exact ⟨_, rfl, zKi_of zh15⟩
  | i + 8, h, _ => exact absurd h (by simp [zxMeta1])
def zKd2 : List Nat := [0, 0, 0, 0, 0, 0, 1, 0]
theorem zkc2 : ∀ (i : Nat) (en : zEn) (g : Nat), zxMeta2[i]? = some en → zKd2[i]? = some g → ∃ me, zMeth2[i]? = some me ∧ zKi g en me := by
  intro i en g h h2
  match i, h, h2 with
  | 0, h, h2 => cases h; cases h2; exact ⟨_, rfl, zKi_of zh16⟩
  | 1, h, h2 => cases h; cases h2; exact ⟨_, rfl, zKi_of zh17⟩
  | 2, h, h2 => cases h; cases h2; exact ⟨_, rfl, zKi_of zh18⟩
  | 3, h, h2 => cases h; cases h2; exact ⟨_, rfl, zKi_of zh19⟩
  | 4, h, h2 => cases h; cases h2; exact ⟨_, rfl, zKi_of zh20⟩
  | 5, h, h2 => cases h; cases h2; exact ⟨_, rfl, zKi_of zh21⟩
  | 6, h, h2 => cases h; cases h2; exact ⟨_, rfl, zKi_of zh22⟩
  | 7, h, h2 => cases h; cases h2; exact ⟨_, rfl, zKi_of zh23⟩
  | i + 8, h, _ => exact absurd h (by simp [zxMeta2])
def zKd3 : List Nat := [0, 0, 0, 0, 2, 2, 1, 0]
theorem zkc3 : ∀ (i : Nat) (en : zEn) (g : Nat), zxMeta3[i]? = some en → zKd3[i]? = some g → ∃ me, zMeth3[i]? = some me ∧ zKi g en me := by
  intro i en g h h2
  match i, h, h2 with
  | 0, h, h2 => cases h; cases h2; exact ⟨_, rfl, zKi_of zh24⟩
  | 1, h, h2 => cases h; cases h2; exact ⟨_, rfl, zKi_of zh25⟩
  | 2, h, h2 => cases h; cases h2; exact ⟨_, rfl, zKi_of zh26⟩
  | 3, h, h2 => cases h; cases h2; exact ⟨_, rfl, zKi_of zh27⟩
  | 4, h, h2 => cases h; cases h2; exact ⟨_, rfl, zKi_of zh28⟩
  | 5, h, h2 => cases h; cases h2; exact ⟨_, rfl, zKi_of zh29⟩
  | 6, h, h2 => cases h; cases h2; exact ⟨_, rfl, zKi_of zh30⟩
  | 7, h, h2 => cases h; cases h2; exact ⟨_, rfl, zKi_of zh31⟩
  | i + 8, h, _ => exact absurd h (by simp [zxMeta3])
def zKd4 : List Nat := [0, 0, 0, 0, 0, 0, 0, 0]
theorem zkc4 : ∀ (i : Nat) (en : zEn) (g : Nat), zxMeta4[i]? = some en → zKd4[i]? = some g → ∃ me, zMeth4[i]? = some me ∧ zKi g en me := by
  intro i en g h h2
  match i, h, h2 with
  | 0, h, h2 => cases h; cases h2; exact ⟨_, rfl, zKi_of zh32⟩
  | 1, h, h2 => cases h; cases h2; exact ⟨_, rfl, zKi_of zh33⟩
  | 2, h, h2 => cases h; cases h2; exact ⟨_, rfl, zKi_of zh34⟩
  | 3, h, h2 => cases h; cases h2; exact ⟨_, rfl, zKi_of zh35⟩
  | 4, h, h2 => cases h; cases h2; exact ⟨_, rfl, zKi_of zh36⟩
  | 5, h, h2 => cases h; cases h2; exact ⟨_, rfl, zKi_of zh37⟩
  | 6, h, h2 => cases h; cases h2; exact ⟨_, rfl, zKi_of zh38⟩
  | 7, h, h2 => cases h; cases h2; exact ⟨_, rfl, zKi_of zh39⟩
  | i + 8, h, _ => exact absurd h (by simp [zxMeta4])
def zKd5 : List Nat := [0, 0, 0, 0, 0, 1, 0, 0]
theorem zkc5 : ∀ (i : Nat) (en : zEn) (g : Nat), zxMeta5[i]? = some en → zKd5[i]? = some g → ∃ me, zMeth5[i]? = some me ∧ zKi g en me := by
  intro i en g h h2
  match i, h, h2 with
  | 0, h, h2 => cases h; cases h2; exact ⟨_, rfl, zKi_of zh40⟩
  | 1, h, h2 => cases h; cases h2; exact ⟨_, rfl, zKi_of zh41⟩
  | 2, h, h2 => cases h; cases h2; exact ⟨_, rfl, zKi_of zh42⟩
  | 3, h, h2 => cases h; cases h2; exact ⟨_, rfl, zKi_of zh43⟩
  | 4, h, h2 => cases h; cases h2; exact ⟨_, rfl, zKi_of zh44⟩
  | 5, h, h2 => cases h; cases h2; exact ⟨_, rfl, zKi_of zh45⟩
  | 6, h, h2 => cases h; cases h2; exact ⟨_, rfl, zKi_of zh46⟩
  | 7, h, h2 => cases h; cases h2; exact ⟨_, rfl, zKi_of zh47⟩
  | i + 8, h, _ => exact absurd h (by simp [zxMeta5])
def zKd6 : List Nat := [0, 0, 0, 0, 0, 0, 0, 0]
theorem zkc6 : ∀ (i : Nat) (en : zEn) (g : Nat), zxMeta6[i]? = some en → zKd6[i]? = some g → ∃ me, zMeth6[i]? = some me ∧ zKi g en me := by
  intro i en g h h2
  match i, h, h2 with
  | 0, h, h2 => cases h; cases h2; exact ⟨_, rfl, zKi_of zh48⟩
  | 1, h, h2 => cases h; cases h2; exact ⟨_, rfl, zKi_of zh49⟩
  | 2, h, h2 => cases h; cases h2; exact ⟨_, rfl, zKi_of zh50⟩
  | 3, h, h2 => cases h; cases h2; exact ⟨_, rfl, zKi_of zh51⟩
  | 4, h, h2 => cases h; cases h2; exact ⟨_, rfl, zKi_of zh52⟩
  | 5, h, h2 => cases h; cases h2; exact ⟨_, rfl, zKi_of zh53⟩
  | 6, h, h2 => cases h; cases h2; exact ⟨_, rfl, zKi_of zh54⟩
  | 7, h, h2 => cases h; cases h2; exact ⟨_, rfl, zKi_of zh55⟩
  | i + 8, h, _ => exact absurd h (by simp [zxMeta6])
def zKd7 : List Nat := [1, 0, 0, 0, 0, 0, 0, 0]
theorem zkc7 : ∀ (i : Nat) (en : zEn) (g : Nat), zxMeta7[i]? = some en → zKd7[i]? = some g → ∃ me, zMeth7[i]? = some me ∧ zKi g en me := by
  intro i en g h h2
  match i, h, h2 with
  | 0, h, h2 => cases h; cases h2; exact ⟨_, rfl, zKi_of zh56⟩
  | 1, h, h2 => cases h; cases h2; exact ⟨_, rfl, zKi_of zh57⟩
  | 2, h, h2 => cases h; cases h2; exact ⟨_, rfl, zKi_of zh58⟩
  | 3, h, h2 => cases h; cases h2; exact ⟨_, rfl, zKi_of zh59⟩
  | 4, h, h2 => cases h; cases h2; exact ⟨_, rfl, zKi_of zh60⟩
  | 5, h, h2 => cases h; cases h2; exact ⟨_, rfl, zKi_of zh61⟩
  | 6, h, h2 => cases h; cases h2; exact ⟨_, rfl, zKi_of zh62⟩
  | 7, h, h2 => cases h; cases h2; exact ⟨_, rfl, zKi_of zh63⟩
  | i + 8, h, _ => exact absurd h (by simp [zxMeta7])
def zKd8 : List Nat := [0, 0, 0, 0, 0, 0, 0, 0]
theorem zkc8 : ∀ (i : Nat) (en : zEn) (g : Nat), zxMeta8[i]? = some en → zKd8[i]? = some g → ∃ me, zMeth8[i]? = some me ∧ zKi g en me := by
  intro i en g h h2
  match i, h, h2 with
  | 0, h, h2 => cases h; cases h2; exact ⟨_, rfl, zKi_of zh64⟩
  | 1, h, h2 => cases h; cases h2; exact ⟨_, rfl, zKi_of zh65⟩
  | 2, h, h2 => cases h; cases h2; exact ⟨_, rfl, zKi_of zh66⟩
  | 3, h, h2 => cases h; cases h2; exact ⟨_, rfl, zKi_of zh67⟩
  | 4, h, h2 => cases h; cases h2; exact ⟨_, rfl, zKi_of zh68⟩
  | 5, h, h2 => cases h; cases h2; exact ⟨_, rfl, zKi_of zh69⟩
  | 6, h, h2 => cases h; cases h2; exact ⟨_, rfl, zKi_of zh70⟩
  | 7, h, h2 => cases h; cases h2; exact ⟨_, rfl, zKi_of zh71⟩
  | i + 8, h, _ => exact absurd h (by simp [zxMeta8])
def zKd9 : List Nat := [0, 0, 0, 2, 1, 0, 0, 0]
theorem zkc9 : ∀ (i : Nat) (en : zEn) (g : Nat), zxMeta9[i]? = some en → zKd9[i]? = some g → ∃ me, zMeth9[i]? = some me ∧ zKi g en me := by
  intro i en g h h2
  match i, h, h2 with
  | 0, h, h2 => cases h; cases h2; exact ⟨_, rfl, zKi_of zh72⟩
  | 1, h, h2 => cases h; cases h2; exact ⟨_, rfl, zKi_of zh73⟩
  | 2, h, h2 => cases h; cases h2; exact ⟨_, rfl, zKi_of zh74⟩
  | 3, h, h2 => cases h; cases h2; exact ⟨_, rfl, zKi_of zh75⟩
  | 4, h, h2 => cases h; cases h2; exact ⟨_, rfl, zKi_of zh76⟩
  | 5, h, h2 => cases h; cases h2; exact ⟨_, rfl, zKi_of zh77⟩
  | 6, h, h2 => cases h; cases h2; exact ⟨_, rfl, zKi_of zh78⟩
  | 7, h, h2 => cases h; cases h2; exact ⟨_, rfl, zKi_of zh79⟩
  | i + 8, h, _ => exact absurd h (by simp [zxMeta9])
def zKd10 : List Nat := [0, 0, 0, 0, 0, 1, 0, 0]
theorem zkc10 : ∀ (i : Nat) (en : zEn) (g : Nat), zxMeta10[i]? = some en → zKd10[i]? = some g → ∃ me, zMeth10[i]? = some me ∧ zKi g en me := by
  intro i en g h h2
  match i, h, h2 with
  | 0, h, h2 => cases h; cases h2; exact ⟨_, rfl, zKi_of zh80⟩
  | 1, h, h2 => cases h; cases h2; exact ⟨_, rfl, zKi_of zh81⟩
  | 2, h, h2 => cases h; cases h2; exact ⟨_, rfl, zKi_of zh82⟩
  | 3, h, h2 => cases h; cases h2; exact ⟨_, rfl, zKi_of zh83⟩
  | 4, h, h2 => cases h; cases h2; exact ⟨_, rfl, zKi_of zh84⟩
  | 5, h, h2 => cases h; cases h2; exact ⟨_, rfl, zKi_of zh85⟩
  | 6, h, h2 => cases h; cases h2; exact ⟨_, rfl, zKi_of zh86⟩
  | 7, h, h2 => cases h; cases h2; exact ⟨_, rfl, zKi_of zh87⟩
  | i + 8, h, _ => exact absurd h (by simp [zxMeta10])
def zKd11 : List Nat := [0, 0, 0, 0, 0, 0, 0, 0]
theorem zkc11 : ∀ (i : Nat) (en : zEn) (g : Nat), zxMeta11[i]? = some en → zKd11[i]? = some g → ∃ me, zMeth11[i]? = some me ∧ zKi g en me := by
  intro i en g h h2
  match i, h, h2 with
  | 0, h, h2 => cases h; cases h2; exact ⟨_, rfl, zKi_of zh88⟩
  | 1, h, h2 => cases h; cases h2; exact ⟨_, rfl, zKi_of zh89⟩
  | 2, h, h2 => cases h; cases h2; exact ⟨_, rfl, zKi_of zh90⟩
  | 3, h, h2 => cases h; cases h2; exact ⟨_, rfl, zKi_of zh91⟩
  | 4, h, h2 => cases h; cases h2; exact ⟨_, rfl, zKi_of zh92⟩
  | 5, h, h2 => cases h; cases h2; exact ⟨_, rfl, zKi_of zh93⟩
  | 6, h, h2 => cases h; cases h2; exact ⟨_, rfl, zKi_of zh94⟩
  | 7, h, h2 => cases h; cases h2; exact ⟨_, rfl, zKi_of zh95⟩
  | i + 8, h, _ => exact absurd h (by simp [zxMeta11])
def zKd12 : List Nat := [0, 0, 0, 0, 0, 1, 0, 0]
theorem zkc12 : ∀ (i : Nat) (en : zEn) (g : Nat), zxMeta12[i]? = some en → zKd12[i]? = some g → ∃ me, zMeth12[i]? = some me ∧ zKi g en me := by
  intro i en g h h2
  match i, h, h2 with
  | 0, h, h2 => cases h; cases h2; exact ⟨_, rfl, zKi_of zh96⟩
  | 1, h, h2 => cases h; cases h2; exact ⟨_, rfl, zKi_of zh97⟩
  | 2, h, h2 => cases h; cases h2; exact ⟨_, rfl, zKi_of zh98⟩
  | 3, h, h2 => cases h; cases h2; exact ⟨_, rfl, zKi_of zh99⟩
  | 4, h, h2 => cases h; cases h2; exact ⟨_, rfl, zKi_of zh100⟩
  | 5, h, h2 => cases h; cases h2; exact ⟨_, rfl, zKi_of zh101⟩
  | 6, h, h2 => cases h; cases h2; exact ⟨_, rfl, zKi_of zh102⟩
  | 7, h, h2 => cases h; cases h2; exact ⟨_, rfl, zKi_of zh103⟩
  | i + 8, h, _ => exact absurd h (by simp [zxMeta12])
def zKd13 : List Nat := [0, 0, 1, 0, 0, 0, 0, 2]
theorem zkc13 : ∀ (i : Nat) (en : zEn) (g : Nat), zxMeta13[i]? = some en → zKd13[i]? = some g → ∃ me, zMeth13[i]? = some me ∧ zKi g en me := by
  intro i en g h h2
  match i, h, h2 with
  | 0, h, h2 => cases h; cases h2; exact ⟨_, rfl, zKi_of zh104⟩
  | 1, h, h2 => cases h; cases h2; exact ⟨_, rfl, zKi_of zh105⟩
  | 2, h, h2 => cases h; cases h2; exact ⟨_, rfl, zKi_of zh106⟩
  | 3, h, h2 => cases h; cases h2; exact ⟨_, rfl, zKi_of zh107⟩
  | 4, h, h2 => cases h; cases h2; exact ⟨_, rfl, zKi_of zh108⟩
  | 5, h, h2 => cases h; cases h2; exact ⟨_, rfl, zKi_of zh109⟩
  | 6, h, h2 => cases h; cases h2; exact ⟨_, rfl, zKi_of zh110⟩
  | 7, h, h2 => cases h; cases h2; exact ⟨_, rfl, zKi_of zh111⟩
  | i + 8, h, _ => exact absurd h (by simp [zxMeta13])
def zKd14 : List Nat := [0, 0, 0, 0, 0, 0, 1, 0]
theorem zkc14 : ∀ (i : Nat) (en : zEn) (g : Nat), zxMeta14[i]? = some en → zKd14[i]? = some g → ∃ me, zMeth14[i]? = some me ∧ zKi g en me := by
  intro i en g h h2
  match i, h, h2 with
  | 0, h, h2 => cases h; cases h2; exact ⟨_, rfl, zKi_of zh112⟩
  | 1, h, h2 => cases h; cases h2; exact ⟨_, rfl, zKi_of zh113⟩
  | 2, h, h2 => cases h; cases h2; exact ⟨_, rfl, zKi_of zh114⟩
  | 3, h, h2 => cases h; cases h2; exact ⟨_, rfl, zKi_of zh115⟩
  | 4, h, h2 => cases h; cases h2; exact ⟨_, rfl, zKi_of zh116⟩
  | 5, h, h2 => cases h; cases h2; exact ⟨_, rfl, zKi_of zh117⟩
  | 6, h, h2 => cases h; cases h2; exact ⟨_, rfl, zKi_of zh118⟩
  | 7, h, h2 => cases h; cases h2; exact ⟨_, rfl, zKi_of zh119⟩
  | i + 8, h, _ => exact absurd h (by simp [zxMeta14])
def zKd15 : List Nat := [0, 0, 0, 0, 0, 0, 0, 0]
theorem zkc15 : ∀ (i : Nat) (en : zEn) (g : Nat), zxMeta15[i]? = some en → zKd15[i]? = some g → ∃ me, zMeth15[i]? = some me ∧ zKi g en me := by
  intro i en g h h2
  match i, h, h2 with
  | 0, h, h2 => cases h; cases h2; exact ⟨_, rfl, zKi_of zh120⟩
  | 1, h, h2 => cases h; cases h2; exact ⟨_, rfl, zKi_of zh121⟩
  | 2, h, h2 => cases h; cases h2; exact ⟨_, rfl, zKi_of zh122⟩
  | 3, h, h2 => cases h; cases h2; exact ⟨_, rfl, zKi_of zh123⟩
  | 4, h, h2 => cases h; cases h2; exact ⟨_, rfl, zKi_of zh124⟩
  | 5, h, h2 => cases h; cases h2; exact ⟨_, rfl, zKi_of zh125⟩
  | 6, h, h2 => cases h; cases h2; exact ⟨_, rfl, zKi_of zh126⟩
  | 7, h, h2 => cases h; cases h2; exact ⟨_, rfl, zKi_of zh127⟩
  | i + 8, h, _ => exact absurd h (by simp [zxMeta15])
def zKd16 : List Nat := [0, 0, 0, 0, 0, 0, 0, 0]
theorem zkc16 : ∀ (i : Nat) (en : zEn) (g : Nat), zxMeta16[i]? = some en → zKd16[i]? = some g → ∃ me, zMeth16[i]? = some me ∧ zKi g en me := by
  intro i en g h h2
  match i, h, h2 with
  | 0, h, h2 => cases h; cases h2; exact ⟨_, rfl, zKi_of zh128⟩
  | 1, h, h2 => cases h; cases h2; exact ⟨_, rfl, zKi_of zh129⟩
  | 2, h, h2 => cases h; cases h2; exact ⟨_, rfl, zKi_of zh130⟩
  | 3, h, h2 => cases h; cases h2; exact ⟨_, rfl, zKi_of zh131⟩
  | 4, h, h2 => cases h; cases h2; exact ⟨_, rfl, zKi_of zh132⟩
  | 5, h, h2 => cases h; cases h2; exact ⟨_, rfl, zKi_of zh133⟩
  | 6, h, h2 => cases h; cases h2; exact ⟨_, rfl, zKi_of zh134⟩
  | 7, h, h2 => cases h; cases h2; exact ⟨_, rfl, zKi_of zh135⟩
  | i + 8, h, _ => exact absurd h (by simp [zxMeta16])
def zKd17 : List Nat := [0, 0, 0, 0, 0, 0, 0, 0]
theorem zkc17 : ∀ (i : Nat) (en : zEn) (g : Nat), zxMeta17[i]? = some en → zKd17[i]? = some g → ∃ me, zMeth17[i]? = some me ∧ zKi g en me := by
  intro i en g h h2
  match i, h, h2 with
  | 0, h, h2 => cases h; cases h2; exact ⟨_, rfl, zKi_of zh136⟩
  | 1, h, h2 => cases h; cases h2; exact ⟨_, rfl, zKi_of zh137⟩
  | 2, h, h2 => cases h; cases h2; exact ⟨_, rfl, zKi_of zh138⟩
  | 3, h, h2 => cases h; cases h2; exact ⟨_, rfl, zKi_of zh139⟩
  | 4, h, h2 => cases h; cases h2; exact ⟨_, rfl, zKi_of zh140⟩
  | 5, h, h2 => cases h; cases h2; exact ⟨_, rfl, zKi_of zh141⟩
  | 6, h, h2 => cases h; cases h2; exact ⟨_, rfl, zKi_of zh142⟩
  | 7, h, h2 => cases h; cases h2; exact ⟨_, rfl, zKi_of zh143⟩
  | i + 8, h, _ => exact absurd h (by simp [zxMeta17])
def zKd18 : List Nat := [0, 0, 0, 0, 0, 0, 0, 0]
theorem zkc18 : ∀ (i : Nat) (en : zEn) (g : Nat), zxMeta18[i]? = some en → zKd18[i]? = some g → ∃ me, zMeth18[i]? = some me ∧ zKi g en me := by
  intro i en g h h2
  match i, h, h2 with
  | 0, h, h2 => cases h; cases h2; exact ⟨_, rfl, zKi_of zh144⟩
  | 1, h, h2 => cases h; cases h2; exact ⟨_, rfl, zKi_of zh145⟩
  | 2, h, h2 => cases h; cases h2; exact ⟨_, rfl, zKi_of zh146⟩
  | 3, h, h2 => cases h; cases h2; exact ⟨_, rfl, zKi_of zh147⟩
  | 4, h, h2 => cases h; cases h2; exact ⟨_, rfl, zKi_of zh148⟩
  | 5, h, h2 => cases h; cases h2; exact ⟨_, rfl, zKi_of zh149⟩
  | 6, h, h2 => cases h; cases h2; exact ⟨_, rfl, zKi_of zh150⟩
  | 7, h, h2 => cases h; cases h2; exact ⟨_, rfl, zKi_of zh151⟩
  | i + 8, h, _ => exact absurd h (by simp [zxMeta18])
def zKd19 : List Nat := [0, 0, 0, 0, 0, 0, 0, 0]
theorem zkc19 : ∀ (i : Nat) (en : zEn) (g : Nat), zxMeta19[i]? = some en → zKd19[i]? = some g → ∃ me, zMeth19[i]? = some me ∧ zKi g en me := by
  intro i en g h h2
  match i, h, h2 with
  | 0, h, h2 => cases h; cases h2; exact ⟨_, rfl, zKi_of zh152⟩
  | 1, h, h2 => cases h; cases h2; exact ⟨_, rfl, zKi_of zh153⟩
  | 2, h, h2 => cases h; cases h2; exact ⟨_, rfl, zKi_of zh154⟩
  | 3, h, h2 => cases h; cases h2; exact ⟨_, rfl, zKi_of zh155⟩
  | 4, h, h2 => cases h; cases h2; exact ⟨_, rfl, zKi_of zh156⟩
  | 5, h, h2 => cases h; cases h2; exact ⟨_, rfl, zKi_of zh157⟩
  | 6, h, h2 => cases h; cases h2; exact ⟨_, rfl, zKi_of zh158⟩
  | 7, h, h2 => cases h; cases h2; exact ⟨_, rfl, zKi_of zh159⟩
  | i + 8, h, _ => exact absurd h (by simp [zxMeta19])
def zKd20 : List Nat := [0, 0, 0, 0, 0, 0, 0, 0]
theorem zkc20 : ∀ (i : Nat) (en : zEn) (g : Nat), zxMeta20[i]? = some en → zKd20[i]? = some g → ∃ me, zMeth20[i]? = some me ∧ zKi g en me := by
  intro i en g h h2
  match i, h, h2 with
  | 0, h, h2 => cases h; cases h2; exact ⟨_, rfl, zKi_of zh160⟩
  | 1, h, h2 => cases h; cases h2; exact ⟨_, rfl, zKi_of zh161⟩
  | 2, h, h2 => cases h; cases h2; exact ⟨_, rfl, zKi_of zh162⟩
  | 3, h, h2 => cases h; cases h2; exact ⟨_, rfl, zKi_of zh163⟩
  | 4, h, h2 => cases h; cases h2; exact ⟨_, rfl, zKi_of zh164⟩
  | 5, h, h2 => cases h; cases h2; exact ⟨_, rfl, zKi_of zh165⟩
  | 6, h, h2 => cases h; cases h2; exact ⟨_, rfl, zKi_of zh166⟩
  | 7, h, h2 => cases h; cases h2; exact ⟨_, rfl, zKi_of zh167⟩
  | i + 8, h, _ => exact absurd h (by simp [zxMeta20])
def zKd21 : List Nat := [0, 0, 0, 0, 0, 0, 0, 0]
theorem zkc21 : ∀ (i : Nat) (en : zEn) (g : Nat), zxMeta21[i]? = some en → zKd21[i]? = some g → ∃ me, zMeth21[i]? = some me ∧ zKi g en me := by
  intro i en g h h2
  match i, h, h2 with
  | 0, h, h2 => cases h; cases h2; exact ⟨_, rfl, zKi_of zh168⟩
  | 1, h, h2 => cases h; cases h2; exact ⟨_, rfl, zKi_of zh169⟩
  | 2, h, h2 => cases h; cases h2; exact ⟨_, rfl, zKi_of zh170⟩
  | 3, h, h2 => cases h; cases h2; exact ⟨_, rfl, zKi_of zh171⟩
  | 4, h, h2 => cases h; cases h2; exact ⟨_, rfl, zKi_of zh172⟩
  | 5, h, h2 => cases h; cases h2; exact ⟨_, rfl, zKi_of zh173⟩
  | 6, h, h2 => cases h; cases h2; exact ⟨_, rfl, zKi_of zh174⟩
  | 7, h, h2 => cases h; cases h2; exact ⟨_, rfl, zKi_of zh175⟩
  | i + 8, h, _ => exact absurd h (by simp [zxMeta21])
def zKd22 : List Nat := [0, 0, 0, 0, 0, 0, 0, 0]
theorem zkc22 : ∀ (i : Nat) (en : zEn) (g : Nat), zxMeta22[i]? = some en → zKd22[i]? = some g → ∃ me, zMeth22[i]? = some me ∧ zKi g en me := by
  intro i en g h h2
  match i, h, h2 with
  | 0, h, h2 => cases h; cases h2; exact ⟨_, rfl, zKi_of zh176⟩
  | 1, h, h2 => cases h; cases h2; exact ⟨_, rfl, zKi_of zh177⟩
  | 2, h, h2 => cases h; cases h2; exact ⟨_, rfl, zKi_of zh178⟩
  | 3, h, h2 => cases h; cases h2; exact ⟨_, rfl, zKi_of zh179⟩
  | 4, h, h2 => cases h; cases h2; exact ⟨_, rfl, zKi_of zh180⟩
  | 5, h, h2 => cases h; cases h2; exact ⟨_, rfl, zKi_of zh181⟩
  | 6, h, h2 => cases h; cases h2; exact ⟨_, rfl, zKi_of zh182⟩
  | 7, h, h2 => cases h; cases h2; exact ⟨_, rfl, zKi_of zh183⟩
  | i + 8, h, _ => exact absurd h (by simp [zxMeta22])
def zKd23 : List Nat := [0, 0, 2, 2, 1, 0, 0, 0]
theorem zkc23 : ∀ (i : Nat) (en : zEn) (g : Nat), zxMeta23[i]? = some en → zKd23[i]? = some g → ∃ me, zMeth23[i]? = some me ∧ zKi g en me := by
  intro i en g h h2
  match i, h, h2 with
  | 0, h, h2 => cases h; cases h2; exact ⟨_, rfl, zKi_of zh184⟩
  | 1, h, h2 => cases h; cases h2; exact ⟨_, rfl, zKi_of zh185⟩
  | 2, h, h2 => cases h; cases h2; exact ⟨_, rfl, zKi_of zh186⟩
  | 3, h, h2 => cases h; cases h2; exact ⟨_, rfl, zKi_of zh187⟩
  | 4, h, h2 => cases h; cases h2; exact ⟨_, rfl, zKi_of zh188⟩
  | 5, h, h2 => cases h; cases h2; exact ⟨_, rfl, zKi_of zh189⟩
  | 6, h, h2 => cases h; cases h2; exact ⟨_, rfl, zKi_of zh190⟩
  | 7, h, h2 => cases h; cases h2; exact ⟨_, rfl, zKi_of zh191⟩
  | i + 8, h, _ => exact absurd h (by simp [zxMeta23])
def zKd24 : List Nat := [2, 0, 0, 0, 0, 0, 0, 0]
theorem zkc24 : ∀ (i : Nat) (en : zEn) (g : Nat), zxMeta24[i]? = some en → zKd24[i]? = some g → ∃ me, zMeth24[i]? = some me ∧ zKi g en me := by
  intro i en g h h2
  match i, h, h2 with
  | 0, h, h2 => cases h; cases h2; exact ⟨_, rfl, zKi_of zh192⟩
  | 1, h, h2 => cases h; cases h2; exact ⟨_, rfl, zKi_of zh193⟩
  | 2, h, h2 => cases h; cases h2; exact ⟨_, rfl, zKi_of zh194⟩
  | 3, h, h2 => cases h; cases h2; exact ⟨_, rfl, zKi_of zh195⟩
  | 4, h, h2 => cases h; cases h2; exact ⟨_, rfl, zKi_of zh196⟩
  | 5, h, h2 => cases h; cases h2; exact ⟨_, rfl, zKi_of zh197⟩
  | 6, h, h2 => cases h; cases h2; exact ⟨_, rfl, zKi_of zh198⟩
  | 7, h, h2 => cases h; cases h2; exact ⟨_, rfl, zKi_of zh199⟩
  | i + 8, h, _ => exact absurd h (by simp [zxMeta24])
def zKd25 : List Nat := [0, 0, 0, 0, 0, 0, 0, 0]
theorem zkc25 : ∀ (i : Nat) (en : zEn) (g : Nat), zxMeta25[i]? = some en → zKd25[i]? = some g → ∃ me, zMeth25[i]? = some me ∧ zKi g en me := by
  intro i en g h h2
  match i, h, h2 with
  | 0, h, h2 => cases h; cases h2; exact ⟨_, rfl, zKi_of zh200⟩
  | 1, h, h2 => cases h; cases h2; exact ⟨_, rfl, zKi_of zh201⟩
  | 2, h, h2 => cases h; cases h2; exact ⟨_, rfl, zKi_of zh202⟩
  | 3, h, h2 => cases h; cases h2; exact ⟨_, rfl, zKi_of zh203⟩
  | 4, h, h2 => cases h; cases h2; exact ⟨_, rfl, zKi_of zh204⟩
  | 5, h, h2 => cases h; cases h2; exact ⟨_, rfl, zKi_of zh205⟩
  | 6, h, h2 => cases h; cases h2; exact ⟨_, rfl, zKi_of zh206⟩
  | 7, h, h2 => cases h; cases h2; exact ⟨_, rfl, zKi_of zh207⟩
  | i + 8, h, _ => exact absurd h (by simp [zxMeta25])
def zKd26 : List Nat := [0, 0, 0, 0, 0, 2, 2, 0]
theorem zkc26 : ∀ (i : Nat) (en : zEn) (g : Nat), zxMeta26[i]? = some en → zKd26[i]? = some g → ∃ me, zMeth26[i]? = some me ∧ zKi g en me := by
  intro i en g h h2
  match i, h, h2 with
  | 0, h, h2 => cases h; cases h2; exact ⟨_, rfl, zKi_of zh208⟩
  | 1, h, h2 => cases h; cases h2; exact ⟨_, rfl, zKi_of zh209⟩
  | 2, h, h2 => cases h; cases h2; exact ⟨_, rfl, zKi_of zh210⟩
  | 3, h, h2 => cases h; cases h2; exact ⟨_, rfl, zKi_of zh211⟩
  | 4, h, h2 => cases h; cases h2; exact ⟨_, rfl, zKi_of zh212⟩
  | 5, h, h2 => cases h; cases h2; exact ⟨_, rfl, zKi_of zh213⟩
  | 6, h, h2 => cases h; cases h2; exact ⟨_, rfl, zKi_of zh214⟩
  | 7, h, h2 => cases h; cases h2; exact ⟨_, rfl, zKi_of zh215⟩
  | i + 8, h, _ => exact absurd h (by simp [zxMeta26])
def zKd27 : List Nat := [0, 0, 0, 0, 0, 0, 0, 0]
theorem zkc27 : ∀ (i : Nat) (en : zEn) (g : Nat), zxMeta27[i]? = some en → zKd27[i]? = some g → ∃ me, zMeth27[i]? = some me ∧ zKi g en me := by
  intro i en g h h2
  match i, h, h2 with
  | 0, h, h2 => cases h; cases h2; exact ⟨_, rfl, zKi_of zh216⟩
  | 1, h, h2 => cases h; cases h2; exact ⟨_, rfl, zKi_of zh217⟩
  | 2, h, h2 => cases h; cases h2; exact ⟨_, rfl, zKi_of zh218⟩
  | 3, h, h2 => cases h; cases h2; exact ⟨_, rfl, zKi_of zh219⟩
  | 4, h, h2 => cases h; cases h2; exact ⟨_, rfl, zKi_of zh220⟩
  | 5, h, h2 => cases h; cases h2; exact ⟨_, rfl, zKi_of zh221⟩
  | 6, h, h2 => cases h; cases h2; exact ⟨_, rfl, zKi_of zh222⟩
  | 7, h, h2 => cases h; cases h2; exact ⟨_, rfl, zKi_of zh223⟩
  | i + 8, h, _ => exact absurd h (by simp [zxMeta27])
def zKd28 : List Nat := [0, 0, 0, 0, 0, 0, 0, 0]
theorem zkc28 : ∀ (i : Nat) (en : zEn) (g : Nat), zxMeta28[i]? = some en → zKd28[i]? = some g → ∃ me, zMeth28[i]? = some me ∧ zKi g en me := by
  intro i en g h h2
  match i, h, h2 with
  | 0, h, h2 => cases h; cases h2; exact ⟨_, rfl, zKi_of zh224⟩
  | 1, h, h2 => cases h; cases h2; exact ⟨_, rfl, zKi_of zh225⟩
  | 2, h, h2 => cases h; cases h2; exact ⟨_, rfl, zKi_of zh226⟩
  | 3, h, h2 => cases h; cases h2; exact ⟨_, rfl, zKi_of zh227⟩
  | 4, h, h2 => cases h; cases h2; exact ⟨_, rfl, zKi_of zh228⟩
  | 5, h, h2 => cases h; cases h2; exact ⟨_, rfl, zKi_of zh229⟩
  | 6, h, h2 => cases h; cases h2; exact ⟨_, rfl, zKi_of zh230⟩
  | 7, h, h2 => cases h; cases h2; exact ⟨_, rfl, zKi_of zh231⟩
  | i + 8, h, _ => exact absurd h (by simp [zxMeta28])
def zKd29 : List Nat := [0, 0, 0, 0, 0, 0, 0, 0]
theorem zkc29 : ∀ (i : Nat) (en : zEn) (g : Nat), zxMeta29[i]? = some en → zKd29[i]? = some g → ∃ me, zMeth29[i]? = some me ∧ zKi g en me := by
  intro i en g h h2
  match i, h, h2 with
  | 0, h, h2 => cases h; cases h2; exact ⟨_, rfl, zKi_of zh232⟩
  | 1, h, h2 => cases h; cases h2; exact ⟨_, rfl, zKi_of zh233⟩
  | 2, h, h2 => cases h; cases h2; exact ⟨_, rfl, zKi_of zh234⟩
  | 3, h, h2 => cases h; cases h2; exact ⟨_, rfl, zKi_of zh235⟩
  | 4, h, h2 => cases h; cases h2; exact ⟨_, rfl, zKi_of zh236⟩
  | 5, h, h2 => cases h; cases h2; exact ⟨_, rfl, zKi_of zh237⟩
  | 6, h, h2 => cases h; cases h2; exact ⟨_, rfl, zKi_of zh238⟩
  | 7, h, h2 => cases h; cases h2; exact ⟨_, rfl, zKi_of zh239⟩
  | i + 8, h, _ => exact absurd h (by simp [zxMeta29])
def zKd30 : List Nat := [0, 0, 0, 0, 0, 0, 0, 0]
theorem zkc30 : ∀ (i : Nat) (en : zEn) (g : Nat), zxMeta30[i]? = some en → zKd30[i]? = some g → ∃ me, zMeth30[i]? = some me ∧ zKi g en me := by
  intro i en g h h2
  match i, h, h2 with
  | 0, h, h2 => cases h; cases h2; exact ⟨_, rfl, zKi_of zh240⟩
  | 1, h, h2 => cases h; cases h2; exact ⟨_, rfl, zKi_of zh241⟩
  | 2, h, h2 => cases h; cases h2; exact ⟨_, rfl, zKi_of zh242⟩
  | 3, h, h2 => cases h; cases h2; exact ⟨_, rfl, zKi_of zh243⟩
  | 4, h, h2 => cases h; cases h2; exact ⟨_, rfl, zKi_of zh244⟩
  | 5, h, h2 => cases h; cases h2; exact ⟨_, rfl, zKi_of zh245⟩
  | 6, h, h2 => cases h; cases h2; exact ⟨_, rfl, zKi_of zh246⟩
  | 7, h, h2 => cases h; cases h2; exact ⟨_, rfl, zKi_of zh247⟩
  | i + 8, h, _ => exact absurd h (by simp [zxMeta30])
def zKd31 : List Nat := [0, 0, 0, 0, 0, 0, 0, 0]
theorem zkc31 : ∀ (i : Nat) (en : zEn) (g : Nat), zxMeta31[i]? = some en → zKd31[i]? = some g → ∃ me, zMeth31[i]? = some me ∧ zKi g en me := by
  intro i en g h h2
  match i, h, h2 with
  | 0, h, h2 => cases h; cases h2; exact ⟨_, rfl, zKi_of zh248⟩
  | 1, h, h2 => cases h; cases h2; exact ⟨_, rfl, zKi_of zh249⟩
  | 2, h, h2 => cases h; cases h2; exact ⟨_, rfl, zKi_of zh250⟩
  | 3, h, h2 => cases h; cases h2; exact ⟨_, rfl, zKi_of zh251⟩
  | 4, h, h2 => cases h; cases h2; exact ⟨_, rfl, zKi_of zh252⟩
  | 5, h, h2 => cases h; cases h2; exact ⟨_, rfl, zKi_of zh253⟩
  | 6, h, h2 => cases h; cases h2; exact ⟨_, rfl, zKi_of zh254⟩
  | 7, h, h2 => cases h; cases h2; exact ⟨_, rfl, zKi_of zh255⟩
  | i + 8, h, _ => exact absurd h (by simp [zxMeta31])
def zKd32 : List Nat := [0, 0, 0, 0, 0, 0, 0, 0]
theorem zkc32 : ∀ (i : Nat) (en : zEn) (g : Nat), zxMeta32[i]? = some en → zKd32[i]? = some g → ∃ me, zMeth32[i]? = some me ∧ zKi g en me := by
  intro i en g h h2
  match i, h, h2 with
  | 0, h, h2 => cases h; cases h2; exact ⟨_, rfl, zKi_of zh256⟩
  | 1, h, h2 => cases h; cases h2; exact ⟨_, rfl, zKi_of zh257⟩
  | 2, h, h2 => cases h; cases h2; exact ⟨_, rfl, zKi_of zh258⟩
  | 3, h, h2 => cases h; cases h2; exact ⟨_, rfl, zKi_of zh259⟩
  | 4, h, h2 => cases h; cases h2; exact ⟨_, rfl, zKi_of zh260⟩
  | 5, h, h2 => cases h; cases h2; exact ⟨_, rfl, zKi_of zh261⟩
  | 6, h, h2 => cases h; cases h2; exact ⟨_, rfl, zKi_of zh262⟩
  | 7, h, h2 => cases h; cases h2; exact ⟨_, rfl, zKi_of zh263⟩
  | i + 8, h, _ => exact absurd h (by simp [zxMeta32])
def zKd33 : List Nat := [0, 0, 0, 0, 0, 0, 0, 0]
theorem zkc33 : ∀ (i : Nat) (en : zEn) (g : Nat), zxMeta33[i]? = some en → zKd33[i]? = some g → ∃ me, zMeth33[i]? = some me ∧ zKi g en me := by
  intro i en g h h2
  match i, h, h2 with
  | 0, h, h2 => cases h; cases h2; exact ⟨_, rfl, zKi_of zh264⟩
  | 1, h, h2 => cases h; cases h2; exact ⟨_, rfl, zKi_of zh265⟩
  | 2, h, h2 => cases h; cases h2; exact ⟨_, rfl, zKi_of zh266⟩
  | 3, h, h2 => cases h; cases h2; exact ⟨_, rfl, zKi_of zh267⟩
  | 4, h, h2 => cases h; cases h2; exact ⟨_, rfl, zKi_of zh268⟩
  | 5, h, h2 => cases h; cases h2; exact ⟨_, rfl, zKi_of zh269⟩
  | 6, h, h2 => cases h; cases h2; exact ⟨_, rfl, zKi_of zh270⟩
  | 7, h, h2 => cases h; cases h2; exact ⟨_, rfl, zKi_of zh271⟩
  | i + 8, h, _ => exact absurd h (by simp [zxMeta33])
def zKd34 : List Nat := [0, 0, 0, 0, 0, 0, 0, 0]
theorem zkc34 : ∀ (i : Nat) (en : zEn) (g : Nat), zxMeta34[i]? = some en → zKd34[i]? = some g → ∃ me, zMeth34[i]? = some me ∧ zKi g en me := by
  intro i en g h h2
  match i, h, h2 with
  | 0, h, h2 => cases h; cases h2; exact ⟨_, rfl, zKi_of zh272⟩
  | 1, h, h2 => cases h; cases h2; exact ⟨_, rfl, zKi_of zh273⟩
  | 2, h, h2 => cases h; cases h2; exact ⟨_, rfl, zKi_of zh274⟩
  | 3, h, h2 => cases h; cases h2; exact ⟨_, rfl, zKi_of zh275⟩
  | 4, h, h2 => cases h; cases h2; exact ⟨_, rfl, zKi_of zh276⟩
  | 5, h, h2 => cases h; cases h2; exact ⟨_, rfl, zKi_of zh277⟩
  | 6, h, h2 => cases h; cases h2; exact ⟨_, rfl, zKi_of zh278⟩
  | 7, h, h2 => cases h; cases h2; exact ⟨_, rfl, zKi_of zh279⟩
  | i + 8, h, _ => exact absurd h (by simp [zxMeta34])
def zKd35 : List Nat := [0, 0, 0, 0, 0, 0, 0, 0]
theorem zkc35 : ∀ (i : Nat) (en : zEn) (g : Nat), zxMeta35[i]? = some en → zKd35[i]? = some g → ∃ me, zMeth35[i]? = some me ∧ zKi g en me := by
  intro i en g h h2
  match i, h, h2 with
  | 0, h, h2 => cases h; cases h2; exact ⟨_, rfl, zKi_of zh280⟩
  | 1, h, h2 => cases h; cases h2; exact ⟨_, rfl, zKi_of zh281⟩
  | 2, h, h2 => cases h; cases h2; exact ⟨_, rfl, zKi_of zh282⟩
  | 3, h, h2 => cases h; cases h2; exact ⟨_, rfl, zKi_of zh283⟩
  | 4, h, h2 => cases h; cases h2; exact ⟨_, rfl, zKi_of zh284⟩
  | 5, h, h2 => cases h; cases h2; exact ⟨_, rfl, zKi_of zh285⟩
  | 6, h, h2 => cases h; cases h2; exact ⟨_, rfl, zKi_of zh286⟩
  | 7, h, h2 => cases h; cases h2; exact ⟨_, rfl, zKi_of zh287⟩
  | i + 8, h, _ => exact absurd h (by simp [zxMeta35])
def zKd36 : List Nat := [0, 0, 0, 0, 0, 0, 0, 0]
theorem zkc36 : ∀ (i : Nat) (en : zEn) (g : Nat), zxMeta36[i]? = some en → zKd36[i]? = some g → ∃ me, zMeth36[i]? = some me ∧ zKi g en me := by
  intro i en g h h2
  match i, h, h2 with
  | 0, h, h2 => cases h; cases h2; exact ⟨_, rfl, zKi_of zh288⟩
  | 1, h, h2 => cases h; cases h2; exact ⟨_, rfl, zKi_of zh289⟩
  | 2, h, h2 => cases h; cases h2; exact ⟨_, rfl, zKi_of zh290⟩
  | 3, h, h2 => cases h; cases h2; exact ⟨_, rfl, zKi_of zh291⟩
  | 4, h, h2 => cases h; cases h2; exact ⟨_, rfl, zKi_of zh292⟩
  | 5, h, h2 => cases h; cases h2; exact ⟨_, rfl, zKi_of zh293⟩
  | 6, h, h2 => cases h; cases h2; exact ⟨_, rfl, zKi_of zh294⟩
  | 7, h, h2 => cases h; cases h2; exact ⟨_, rfl, zKi_of zh295⟩
  | i + 8, h, _ => exact absurd h (by simp [zxMeta36])
def zKd37 : List Nat := [0, 0, 2, 0, 0, 0, 0, 0]
theorem zkc37 : ∀ (i : Nat) (en : zEn) (g : Nat), zxMeta37[i]? = some en → zKd37[i]? = some g → ∃ me, zMeth37[i]? = some me ∧ zKi g en me := by
  intro i en g h h2
  match i, h, h2 with
  | 0, h, h2 => cases h; cases h2; exact ⟨_, rfl, zKi_of zh296⟩
  | 1, h, h2 => cases h; cases h2; exact ⟨_, rfl, zKi_of zh297⟩
  | 2, h, h2 => cases h; cases h2; exact ⟨_, rfl, zKi_of zh298⟩
  | 3, h, h2 => cases h; cases h2; exact ⟨_, rfl, zKi_of zh299⟩
  | 4, h, h2 => cases h; cases h2; exact ⟨_, rfl, zKi_of zh300⟩
  | 5, h, h2 => cases h; cases h2; exact ⟨_, rfl, zKi_of zh301⟩
  | 6, h, h2 => cases h; cases h2; exact ⟨_, rfl, zKi_of zh302⟩
  | 7, h, h2 => cases h; cases h2; exact ⟨_, rfl, zKi_of zh303⟩
  | i + 8, h, _ => exact absurd h (by simp [zxMeta37])
def zKd38 : List Nat := [0, 0, 0, 0, 0, 0, 0, 0]
theorem zkc38 : ∀ (i : Nat) (en : zEn) (g : Nat), zxMeta38[i]? = some en → zKd38[i]? = some g → ∃ me, zMeth38[i]? = some me ∧ zKi g en me := by
  intro i en g h h2
  match i, h, h2 with
  | 0, h, h2 => cases h; cases h2; exact ⟨_, rfl, zKi_of zh304⟩
  | 1, h, h2 => cases h; cases h2; exact ⟨_, rfl, zKi_of zh305⟩
  | 2, h, h2 => cases h; cases h2; exact ⟨_, rfl, zKi_of zh306⟩
  | 3, h, h2 => cases h; cases h2; exact ⟨_, rfl, zKi_of zh307⟩
  | 4, h, h2 => cases h; cases h2; exact ⟨_, rfl, zKi_of zh308⟩
  | 5, h, h2 => cases h; cases h2; exact ⟨_, rfl, zKi_of zh309⟩
  | 6, h, h2 => cases h; cases h2; exact ⟨_, rfl, zKi_of zh310⟩
  | 7, h, h2 => cases h; cases h2; exact ⟨_, rfl, zKi_of zh311⟩
  | i + 8, h, _ => exact absurd h (by simp [zxMeta38])
def zKd39 : List Nat := [0, 0, 0, 0, 0, 0, 0, 0]
theorem zkc39 : ∀ (i : Nat) (en : zEn) (g : Nat), zxMeta39[i]? = some en → zKd39[i]? = some g → ∃ me, zMeth39[i]? = some me ∧ zKi g en me := by
  intro i en g h h2
  match i, h, h2 with
  | 0, h, h2 => cases h; cases h2; exact ⟨_, rfl, zKi_of zh312⟩
  | 1, h, h2 => cases h; cases h2; exact ⟨_, rfl, zKi_of zh313⟩
  | 2, h, h2 => cases h; cases h2; exact ⟨_, rfl, zKi_of zh314⟩
  | 3, h, h2 => cases h; cases h2; exact ⟨_, rfl, zKi_of zh315⟩
  | 4, h, h2 => cases h; cases h2; exact ⟨_, rfl, zKi_of zh316⟩
  | 5, h, h2 => cases h; cases h2; exact ⟨_, rfl, zKi_of zh317⟩
  | 6, h, h2 => cases h; cases h2; exact ⟨_, rfl, zKi_of zh318⟩
  | 7, h, h2 => cases h; cases h2; exact ⟨_, rfl, zKi_of zh319⟩
  | i + 8, h, _ => exact absurd h (by simp [zxMeta39])
def zKd40 : List Nat := [0, 0, 0, 0, 0, 0, 0, 0]
theorem zkc40 : ∀ (i : Nat) (en : zEn) (g : Nat), zxMeta40[i]? = some en → zKd40[i]? = some g → ∃ me, zMeth40[i]? = some me ∧ zKi g en me := by
  intro i en g h h2
  match i, h, h2 with
  | 0, h, h2 => cases h; cases h2; exact ⟨_, rfl, zKi_of zh320⟩
  | 1, h, h2 => cases h; cases h2; exact ⟨_, rfl, zKi_of zh321⟩
  | 2, h, h2 => cases h; cases h2; exact ⟨_, rfl, zKi_of zh322⟩
  | 3, h, h2 => cases h; cases h2; exact ⟨_, rfl, zKi_of zh323⟩
  | 4, h, h2 => cases h; cases h2; exact ⟨_, rfl, zKi_of zh324⟩
  | 5, h, h2 => cases h; cases h2; exact ⟨_, rfl, zKi_of zh325⟩
  | 6, h, h2 => cases h; cases h2; exact ⟨_, rfl, zKi_of zh326⟩
  | 7, h, h2 => cases h; cases h2; exact ⟨_, rfl, zKi_of zh327⟩
  | i + 8, h, _ => exact absurd h (by simp [zxMeta40])
def zKd41 : List Nat := [0, 0, 0, 0, 0, 0, 0, 0]
theorem zkc41 : ∀ (i : Nat) (en : zEn) (g : Nat), zxMeta41[i]? = some en → zKd41[i]? = some g → ∃ me, zMeth41[i]? = some me ∧ zKi g en me := by
  intro i en g h h2
  match i, h, h2 with
  | 0, h, h2 => cases h; cases h2; exact ⟨_, rfl, zKi_of zh328⟩
  | 1, h, h2 => cases h; cases h2; exact ⟨_, rfl, zKi_of zh329⟩
  | 2, h, h2 => cases h; cases h2; exact ⟨_, rfl, zKi_of zh330⟩
  | 3, h, h2 => cases h; cases h2; exact ⟨_, rfl, zKi_of zh331⟩
  | 4, h, h2 => cases h; cases h2; exact ⟨_, rfl, zKi_of zh332⟩
  | 5, h, h2 => cases h; cases h2; exact ⟨_, rfl, zKi_of zh333⟩
  | 6, h, h2 => cases h; cases h2; exact ⟨_, rfl, zKi_of zh334⟩
  | 7, h, h2 => cases h; cases h2; exact ⟨_, rfl, zKi_of zh335⟩
  | i + 8, h, _ => exact absurd h (by simp [zxMeta41])
def zKd42 : List Nat := [0, 0, 0, 0, 2, 2, 2, 2]
theorem zkc42 : ∀ (i : Nat) (en : zEn) (g : Nat), zxMeta42[i]? = some en → zKd42[i]? = some g → ∃ me, zMeth42[i]? = some me ∧ zKi g en me := by
  intro i en g h h2
  match i, h, h2 with
  | 0, h, h2 => cases h; cases h2; exact ⟨_, rfl, zKi_of zh336⟩
  | 1, h, h2 => cases h; cases h2; exact ⟨_, rfl, zKi_of zh337⟩
  | 2, h, h2 => cases h; cases h2; exact ⟨_, rfl, zKi_of zh338⟩
  | 3, h, h2 => cases h; cases h2; exact ⟨_, rfl, zKi_of zh339⟩
  | 4, h, h2 => cases h; cases h2; exact ⟨_, rfl, zKi_of zh340⟩
  | 5, h, h2 => cases h; cases h2; exact ⟨_, rfl, zKi_of zh341⟩
  | 6, h, h2 => cases h; cases h2; exact ⟨_, rfl, zKi_of zh342⟩
  | 7, h, h2 => cases h; cases h2; exact ⟨_, rfl, zKi_of zh343⟩
  | i + 8, h, _ => exact absurd h (by simp [zxMeta42])
def zKd43 : List Nat := [2, 0, 0, 0, 0, 2, 2, 2]
theorem zkc43 : ∀ (i : Nat) (en : zEn) (g : Nat), zxMeta43[i]? = some en → zKd43[i]? = some g → ∃ me, zMeth43[i]? = some me ∧ zKi g en me := by
  intro i en g h h2
  match i, h, h2 with
  | 0, h, h2 => cases h; cases h2; exact ⟨_, rfl, zKi_of zh344⟩
  | 1, h, h2 => cases h; cases h2; exact ⟨_, rfl, zKi_of zh345⟩
  | 2, h, h2 => cases h; cases h2; exact ⟨_, rfl, zKi_of zh346⟩
  | 3, h, h2 => cases h; cases h2; exact ⟨_, rfl, zKi_of zh347⟩
  | 4, h, h2 => cases h; cases h2; exact ⟨_, rfl, zKi_of zh348⟩
  | 5, h, h2 => cases h; cases h2; exact ⟨_, rfl, zKi_of zh349⟩
  | 6, h, h2 => cases h; cases h2; exact ⟨_, rfl, zKi_of zh350⟩
  | 7, h, h2 => cases h; cases h2; exact ⟨_, rfl, zKi_of zh351⟩
  | i + 8, h, _ => exact absurd h (by simp [zxMeta43])
def zKd44 : List Nat := [2, 2, 2, 2]
theorem zkc44 : ∀ (i : Nat) (en : zEn) (g : Nat), zxMeta44[i]? = some en → zKd44[i]? = some g → ∃ me, zMeth44[i]? = some me ∧ zKi g en me := by
  intro i en g h h2
  match i, h, h2 with
  | 0, h, h2 => cases h; cases h2; exact ⟨_, rfl, zKi_of zh352⟩
  | 1, h, h2 => cases h; cases h2; exact ⟨_, rfl, zKi_of zh353⟩
  | 2, h, h2 => cases h; cases h2; exact ⟨_, rfl, zKi_of zh354⟩
  | 3, h, h2 => cases h; cases h2; exact ⟨_, rfl, zKi_of zh355⟩
  | i + 4, h, _ => exact absurd h (by simp [zxMeta44])
theorem zkd0 : ∀ (u i : Nat) (a : List zEn) (en : zEn) (a2 : List Nat) (g : Nat), [zxMeta0, zxMeta1, zxMeta2, zxMeta3, zxMeta4, zxMeta5, zxMeta6, zxMeta7][u]? = some a → a[i]? = some en → [zKd0, zKd1, zKd2, zKd3, zKd4, zKd5, zKd6, zKd7][u]? = some a2 → a2[i]? = some g → ∃ b me, [zMeth0, zMeth1, zMeth2, zMeth3, zMeth4, zMeth5, zMeth6, zMeth7][u]? = some b ∧ b[i]? = some me ∧ zKi g en me := by
  intro u i a en a2 g h1 h2 h3 h4
  match u, h1, h3 with
  | 0, h1, h3 => cases h1; cases h3; obtain ⟨me, g1, g2⟩ := zkc0 i en g h2 h4; exact ⟨_, me, rfl, g1, g2⟩
  | 1, h1, h3 => cases h1; cases h3; obtain ⟨me, g1, g2⟩ := zkc1 i en g h2 h4; exact ⟨_, me, rfl, g1, g2⟩
  | 2, h1, h3 => cases h1; cases h3; obtain ⟨me, g1, g2⟩ := zkc2 i en g h2 h4; exact ⟨_, me, rfl, g1, g2⟩
  | 3, h1, h3 => cases h1; cases h3; obtain ⟨me, g1, g2⟩ := zkc3 i en g h2 h4; exact ⟨_, me, rfl, g1, g2⟩
  | 4, h1, h3 => cases h1; cases h3; obtain ⟨me, g1, g2⟩ := zkc4 i en g h2 h4; exact ⟨_, me, rfl, g1, g2⟩
  | 5, h1, h3 => cases h1; cases h3; obtain ⟨me, g1, g2⟩ := zkc5 i en g h2 h4; exact ⟨_, me, rfl, g1, g2⟩
  | 6, h1, h3 => cases h1; cases h3; obtain ⟨me, g1, g2⟩ := zkc6 i en g h2 h4; exact ⟨_, me, rfl, g1, g2⟩
  | 7, h1, h3 => cases h1; cases h3; obtain ⟨me, g1, g2⟩ := zkc7 i en g h2 h4; exact ⟨_, me, rfl, g1, g2⟩
  | u + 8, h1, _ => exact absurd h1 (by simp)
theorem zkd1 : ∀ (u i : Nat) (a : List zEn) (en : zEn) (a2 : List Nat) (g : Nat), [zxMeta8, zxMeta9, zxMeta10, zxMeta11, zxMeta12, zxMeta13, zxMeta14, zxMeta15][u]? = some a → a[i]? = some en → [zKd8, zKd9, zKd10, zKd11, zKd12, zKd13, zKd14, zKd15][u]? = some a2 → a2[i]? = some g → ∃ b me, [zMeth8, zMeth9, zMeth10, zMeth11, zMeth12, zMeth13, zMeth14, zMeth15][u]? = some b ∧ b[i]? = some me ∧ zKi g en me := by
  intro u i a en a2 g h1 h2 h3 h4
  match u, h1, h3 with
  | 0, h1, h3 => cases h1; cases h3; obtain ⟨me, g1, g2⟩ := zkc8 i en g h2 h4; exact ⟨_, me, rfl, g1, g2⟩
  | 1, h1, h3 => cases h1; cases h3; obtain ⟨me, g1, g2⟩ := zkc9 i en g h2 h4; exact ⟨_, me, rfl, g1, g2⟩
  | 2, h1, h3 => cases h1; cases h3; obtain ⟨me, g1, g2⟩ := zkc10 i en g h2 h4; exact ⟨_, me, rfl, g1, g2⟩
  | 3, h1, h3 => cases h1; cases h3; obtain ⟨me, g1, g2⟩ := zkc11 i en g h2 h4; exact ⟨_, me, rfl, g1, g2⟩
  | 4, h1, h3 => cases h1; cases h3; obtain ⟨me, g1, g2⟩ := zkc12 i en g h2 h4; exact ⟨_, me, rfl, g1, g2⟩
  | 5, h1, h3 => cases h1; cases h3; obtain ⟨me, g1, g2⟩ := zkc13 i en g h2 h4; exact ⟨_, me, rfl, g1, g2⟩
  | 6, h1, h3 => cases h1; cases h3; obtain ⟨me, g1, g2⟩ := zkc14 i en g h2 h4; exact ⟨_, me, rfl, g1, g2⟩
  | 7, h1, h3 => cases h1; cases h3; obtain ⟨me, g1, g2⟩ := zkc15 i en g h2 h4; exact ⟨_, me, rfl, g1, g2⟩
  | u + 8, h1, _ => exact absurd h1 (by simp)
theorem zkd2 : ∀ (u i : Nat) (a : List zEn) (en : zEn) (a2 : List Nat) (g : Nat), [zxMeta16, zxMeta17, zxMeta18, zxMeta19, zxMeta20, zxMeta21, zxMeta22, zxMeta23][u]? = some a → a[i]? = some en → [zKd16, zKd17, zKd18, zKd19, zKd20, zKd21, zKd22, zKd23][u]? = some a2 → a2[i]? = some g → ∃ b me, [zMeth16, zMeth17, zMeth18, zMeth19, zMeth20, zMeth21, zMeth22, zMeth23][u]? = some b ∧ b[i]? = some me ∧ zKi g en me := by
  intro u i a en a2 g h1 h2 h3 h4
  match u, h1, h3 with
  | 0, h1, h3 => cases h1; cases h3; obtain ⟨me, g1, g2⟩ := zkc16 i en g h2 h4; exact ⟨_, me, rfl, g1, g2⟩
  | 1, h1, h3 => cases h1; cases h3; obtain ⟨me, g1, g2⟩ := zkc17 i en g h2 h4; exact ⟨_, me, rfl, g1, g2⟩
  | 2, h1, h3 => cases h1; cases h3; obtain ⟨me, g1, g2⟩ := zkc18 i en g h2 h4; exact ⟨_, me, rfl, g1, g2⟩
  | 3, h1, h3 => cases h1; cases h3; obtain ⟨me, g1, g2⟩ := zkc19 i en g h2 h4; exact ⟨_, me, rfl, g1, g2⟩
  | 4, h1, h3 => cases h1; cases h3; obtain ⟨me, g1, g2⟩ := zkc20 i en g h2 h4; exact ⟨_, me, rfl, g1, g2⟩
  | 5, h1, h3 => cases h1; cases h3; obtain ⟨me, g1, g2⟩ := zkc21 i en g h2 h4; exact ⟨_, me, rfl, g1, g2⟩
  | 6, h1, h3 => cases h1; cases h3; obtain ⟨me, g1, g2⟩ := zkc22 i en g h2 h4; exact ⟨_, me, rfl, g1, g2⟩
  | 7, h1, h3 => cases h1; cases h3; obtain ⟨me, g1, g2⟩ := zkc23 i en g h2 h4; exact ⟨_, me, rfl, g1, g2⟩
  | u + 8, h1, _ => exact absurd h1 (by simp)
theorem zkd3 : ∀ (u i : Nat) (a : List zEn) (en : zEn) (a2 : List Nat) (g : Nat), [zxMeta24, zxMeta25, zxMeta26, zxMeta27, zxMeta28, zxMeta29, zxMeta30, zxMeta31][u]? = some a → a[i]? = some en → [zKd24, zKd25, zKd26, zKd27, zKd28, zKd29, zKd30, zKd31][u]? = some a2 → a2[i]? = some g → ∃ b me, [zMeth24, zMeth25, zMeth26, zMeth27, zMeth28, zMeth29, zMeth30, zMeth31][u]? = some b ∧ b[i]? = some me ∧ zKi g en me := by
  intro u i a en a2 g h1 h2 h3 h4
  match u, h1, h3 with
  | 0, h1, h3 => cases h1; cases h3; obtain ⟨me, g1, g2⟩ := zkc24 i en g h2 h4; exact ⟨_, me, rfl, g1, g2⟩
  | 1, h1, h3 => cases h1; cases h3; obtain ⟨me, g1, g2⟩ := zkc25 i en g h2 h4; exact ⟨_, me, rfl, g1, g2⟩
  | 2, h1, h3 => cases h1; cases h3; obtain ⟨me, g1, g2⟩ := zkc26 i en g h2 h4; exact ⟨_, me, rfl, g1, g2⟩
  | 3, h1, h3 => cases h1; cases h3; obtain ⟨me, g1, g2⟩ := zkc27 i en g h2 h4; exact ⟨_, me, rfl, g1, g2⟩
  | 4, h1, h3 => cases h1; cases h3; obtain ⟨me, g1, g2⟩ := zkc28 i en g h2 h4; exact ⟨_, me, rfl, g1, g2⟩
  | 5, h1, h3 => cases h1; cases h3; obtain ⟨me, g1, g2⟩ := zkc29 i en g h2 h4; exact ⟨_, me, rfl, g1, g2⟩
  | 6, h1, h3 => cases h1; cases h3; obtain ⟨me, g1, g2⟩ := zkc30 i en g h2 h4; exact ⟨_, me, rfl, g1, g2⟩
  | 7, h1, h3 => cases h1; cases h3; obtain ⟨me, g1, g2⟩ := zkc31 i en g h2 h4; exact ⟨_, me, rfl, g1, g2⟩
  | u + 8, h1, _ => exact absurd h1 (by simp)
theorem zkd4 : ∀ (u i : Nat) (a : List zEn) (en : zEn) (a2 : List Nat) (g : Nat), [zxMeta32, zxMeta33, zxMeta34, zxMeta35, zxMeta36, zxMeta37, zxMeta38, zxMeta39][u]? = some a → a[i]? = some en → [zKd32, zKd33, zKd34, zKd35, zKd36, zKd37, zKd38, zKd39][u]? = some a2 → a2[i]? = some g → ∃ b me, [zMeth32, zMeth33, zMeth34, zMeth35, zMeth36, zMeth37, zMeth38, zMeth39][u]? = some b ∧ b[i]? = some me ∧ zKi g en me := by
  intro u i a en a2 g h1 h2 h3 h4
  match u, h1, h3 with
  | 0, h1, h3 => cases h1; cases h3; obtain ⟨me, g1, g2⟩ := zkc32 i en g h2 h4; exact ⟨_, me, rfl, g1, g2⟩
  | 1, h1, h3 => cases h1; cases h3; obtain ⟨me, g1, g2⟩ := zkc33 i en g h2 h4; exact ⟨_, me, rfl, g1, g2⟩
  | 2, h1, h3 => cases h1; cases h3; obtain ⟨me, g1, g2⟩ := zkc34 i en g h2 h4; exact ⟨_, me, rfl, g1, g2⟩
  | 3, h1, h3 => cases h1; cases h3; obtain ⟨me, g1, g2⟩ := zkc35 i en g h2 h4; exact ⟨_, me, rfl, g1, g2⟩
  | 4, h1, h3 => cases h1; cases h3; obtain ⟨me, g1, g2⟩ := zkc36 i en g h2 h4; exact ⟨_, me, rfl, g1, g2⟩
  | 5, h1, h3 => cases h1; cases h3; obtain ⟨me, g1, g2⟩ := zkc37 i en g h2 h4; exact ⟨_, me, rfl, g1, g2⟩
  | 6, h1, h3 => cases h1; cases h3; obtain ⟨me, g1, g2⟩ := zkc38 i en g h2 h4; exact ⟨_, me, rfl, g1, g2⟩
  | 7, h1, h3 => cases h1; cases h3; obtain ⟨me, g1, g2⟩ := zkc39 i en g h2 h4; exact ⟨_, me, rfl, g1, g2⟩
  | u + 8, h1, _ => exact absurd h1 (by simp)
theorem zkd5 : ∀ (u i : Nat) (a : List zEn) (en : zEn) (a2 : List Nat) (g : Nat), [zxMeta40, zxMeta41, zxMeta42, zxMeta43, zxMeta44][u]? = some a → a[i]? = some en → [zKd40, zKd41, zKd42, zKd43, zKd44][u]? = some a2 → a2[i]? = some g → ∃ b me, [zMeth40, zMeth41, zMeth42, zMeth43, zMeth44][u]? = some b ∧ b[i]? = some me ∧ zKi g en me := by
  intro u i a en a2 g h1 h2 h3 h4
  match u, h1, h3 with
  | 0, h1, h3 => cases h1; cases h3; obtain ⟨me, g1, g2⟩ := zkc40 i en g h2 h4; exact ⟨_, me, rfl, g1, g2⟩
  | 1, h1, h3 => cases h1; cases h3; obtain ⟨me, g1, g2⟩ := zkc41 i en g h2 h4; exact ⟨_, me, rfl, g1, g2⟩
  | 2, h1, h3 => cases h1; cases h3; obtain ⟨me, g1, g2⟩ := zkc42 i en g h2 h4; exact ⟨_, me, rfl, g1, g2⟩
  | 3, h1, h3 => cases h1; cases h3; obtain ⟨me, g1, g2⟩ := zkc43 i en g h2 h4; exact ⟨_, me, rfl, g1, g2⟩
  | 4, h1, h3 => cases h1; cases h3; obtain ⟨me, g1, g2⟩ := zkc44 i en g h2 h4; exact ⟨_, me, rfl, g1, g2⟩
  | u + 5, h1, _ => exact absurd h1 (by simp)
def zKd : List (List (List Nat)) := [[zKd0, zKd1, zKd2, zKd3, zKd4, zKd5, zKd6, zKd7], [zKd8, zKd9, zKd10, zKd11, zKd12, zKd13, zKd14, zKd15], [zKd16, zKd17, zKd18, zKd19, zKd20, zKd21, zKd22, zKd23], [zKd24, zKd25, zKd26, zKd27, zKd28, zKd29, zKd30, zKd31], [zKd32, zKd33, zKd34, zKd35, zKd36, zKd37, zKd38, zKd39], [zKd40, zKd41, zKd42, zKd43, zKd44]]
theorem zallk {y : Nat} {en : zEn} {g : Nat} (h : zG zxMeta y = some en) (hg : zG zKd y = some g) : ∃ me, zG zMeth y = some me ∧ zKi g en me := by
  obtain ⟨b, a, h1, h2, h3⟩ := zG_iff h
  obtain ⟨b4, a4, k1, k2, k3⟩ := zG_iff hg
  have key : ∃ b2 a2 me, zMeth[y / 64]? = some b2 ∧ b2[y / 8 % 8]? = some a2 ∧ a2[y % 8]? = some me ∧ zKi g en me := by
    generalize y / 64 = t at h1 k1 ⊢
    match t, h1, k1 with
    | 0, h1, k1 => cases h1; cases k1; obtain ⟨b3, me, q1, q2, q3⟩ := zkd0 _ _ _ en _ g h2 h3 k2 k3; exact ⟨_, b3, me, rfl, q1, q2, q3⟩
    | 1, h1, k1 => cases h1; cases k1; obtain ⟨b3, me, q1, q2, q3⟩ := zkd1 _ _ _ en _ g h2 h3 k2 k3; exact ⟨_, b3, me, rfl, q1, q2, q3⟩
    | 2, h1, k1 => cases h1; cases k1; obtain ⟨b3, me, q1, q2, q3⟩ := zkd2 _ _ _ en _ g h2 h3 k2 k3; exact ⟨_, b3, me, rfl, q1, q2, q3⟩
    | 3, h1, k1 => cases h1; cases k1; obtain ⟨b3, me, q1, q2, q3⟩ := zkd3 _ _ _ en _ g h2 h3 k2 k3; exact ⟨_, b3, me, rfl, q1, q2, q3⟩
    | 4, h1, k1 => cases h1; cases k1; obtain ⟨b3, me, q1, q2, q3⟩ := zkd4 _ _ _ en _ g h2 h3 k2 k3; exact ⟨_, b3, me, rfl, q1, q2, q3⟩
    | 5, h1, k1 => cases h1; cases k1; obtain ⟨b3, me, q1, q2, q3⟩ := zkd5 _ _ _ en _ g h2 h3 k2 k3; exact ⟨_, b3, me, rfl, q1, q2, q3⟩
    | t + 6, h1, _ => exact absurd h1 (by simp [zxMeta])
  obtain ⟨b2, a2, me, g1, g2, g3, g4⟩ := key
  refine ⟨me, ?_, g4⟩
  unfold zG
  rw [g1, Option.bind_some, g2, Option.bind_some]
  exact g3
