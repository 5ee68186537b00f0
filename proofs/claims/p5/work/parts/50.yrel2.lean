/-! THE REFERENCE's FUNCTIONS of what is told: over the elements of zyFd 0 alone -/
noncomputable def zyres (E : zyEm) : zyEm := fun a k => if zyin (zyFd 0) a k = true then E a k else none
theorem zyres_eq {E E2 : zyEm} (h : ∀ a k, zyin (zyFd 0) a k = true → E a k = E2 a k) : zyres E = zyres E2 := by
  funext a k
  unfold zyres
  by_cases hq : zyin (zyFd 0) a k = true
  · rw [if_pos hq, if_pos hq, h a k hq]
  · rw [if_neg hq, if_neg hq]
theorem zyFd_0 {id : Nat} (h : id < 100) : zyFd id = zyFd 0 := by
  unfold zyFd
  rw [show Nat.ble (Nat.succ id) 100 = true from Nat.ble_eq_true_of_le (by omega)]
  rfl
theorem zyFd0_in {a k : Nat} (h : (a = 74 ∧ 4 ≤ k ∧ k ≤ 9) ∨ (a = 75 ∧ k ≤ 1) ∨ (a = 75 ∧ 8 ≤ k ∧ k ≤ 135)) : zyin (zyFd 0) a k = true := by
  rw [show zyFd 0 = [(74, 4, 9), (75, 0, 1), (75, 8, 135)] from rfl, zyin_iff]
  rcases h with ⟨rfl, h1, h2⟩ | ⟨rfl, h2⟩ | ⟨rfl, h1, h2⟩
  · exact ⟨(74, 4, 9), by simp, rfl, h1, h2⟩
  · exact ⟨(75, 0, 1), by simp, rfl, Nat.zero_le _, h2⟩
  · exact ⟨(75, 8, 135), by simp, rfl, h1, h2⟩
theorem zyI_res {E : zyEm} {a k : Nat} (h : (a = 74 ∧ 4 ≤ k ∧ k ≤ 9) ∨ (a = 75 ∧ k ≤ 1) ∨ (a = 75 ∧ 8 ≤ k ∧ k ≤ 135)) : zyI (zyres E) a k = zyI E a k := by
  refine zyI_eq ?_
  unfold zyres
  rw [if_pos (zyFd0_in h)]
def zgr (E : zyEm) : Nat := zyN1 (zyI E 75 0)
def zgc (E : zyEm) : Nat := zyN1 (zyI E 75 1)
def zgHow (E : zyEm) (g : Nat) : Int32 := if zyI E 74 9 = 0 then zyI E 75 (72 + min g 31) else if Int32.ofNat g = zyI E 74 4 then zyI E 74 5 else if Int32.ofNat g = zyI E 74 6 then zyI E 74 7 else 0
def zgFn (E : zyEm) : Nat → Int32
  | 0 => 0
  | k + 1 => zgFn E k + zyI E 75 (104 + min k 31)
def zgO (E : zyEm) (g : Nat) (t : Int32) : Bool := if 0 < zgHow E g then decide (zgHow E g = 2) else if ¬ zyI E 74 8 < 0 ∧ zyI E 75 (104 + min g 31) = 1 then decide ((zyI E 74 8 >>> (zgFn E g &&& 31)) &&& 1 = 1) else decide ((zyI E 75 (8 + min g 31) >>> ((t - t / zyI E 75 (40 + min g 31) * zyI E 75 (40 + min g 31)) &&& 31)) &&& 1 = 1)
noncomputable def zgV (E : zyEm) (s : Nat) (t : Int32) : Nat := if zgG (zgr E) (zgc E) s = 4294967295 then s else if zgO E (zgG (zgr E) (zgc E) s) t = true then zgF (zgr E) (zgc E) s else s
noncomputable def zgM (E : zyEm) (s : Nat) (t : Int32) : Nat := zgV E (zgT (zgc E) s) t
def zgPk (E : zyEm) : Nat → Nat
  | 0 => 1
  | k + 1 => Nat.lcm (zgPk E k) (zyN1 (zyI E 75 (40 + min k 31)))
noncomputable def zgP (E : zyEm) : Nat := zgPk E (zgNG (zgr E) (zgc E))
noncomputable def zgRk (E : zyEm) (from_ : Int32) (s : Nat) : Nat → Nat
  | 0 => s
  | k + 1 => zgM E (zgRk E from_ s k) (from_ + Int32.ofNat k)
noncomputable def zgR (E : zyEm) (s : Nat) (from_ : Int32) : Nat := zgRk E from_ s (zgP E)
def zyRr0 (id : Nat) (E : zyEm) (x y z : Int32) : Prop :=
  (id = 0 ∧ z = Int32.ofNat (zgT (zgc E) (zyN1 x))) ∨ (id = 1 ∧ z = Int32.ofNat (zgG (zgr E) (zgc E) (zyN1 x))) ∨ (id = 2 ∧ z = Int32.ofNat (zgF (zgr E) (zgc E) (zyN1 x))) ∨ (id = 3 ∧ z = if zgO E (zyN1 x) y = true then 1 else 0) ∨
  (id = 4 ∧ z = Int32.ofNat (zgV E (zyN1 x) y)) ∨ (id = 5 ∧ z = Int32.ofNat (zgM E (zyN1 x) y)) ∨ (id = 6 ∧ z = Int32.ofNat (zgP E)) ∨ (id = 7 ∧ z = Int32.ofNat (zgR E (zyN1 x) y)) ∨ (id = 8 ∧ z = zgFn E (zyN1 x))
def zyRr (id : Nat) (E : zyEm) (x y z : Int32) : Prop := (id < 100 ∧ zyRr0 id (zyres E) x y z) ∨ (300 ≤ id ∧ zB x ≤ zB z ∧ zB z ≤ zB x + (id - 300))
theorem zyRr_congr {id : Nat} {E E2 : zyEm} {x y z : Int32} (h : ∀ a k, zyin (zyFd id) a k = true → E a k = E2 a k) (hr : zyRr id E x y z) : zyRr id E2 x y z := by
  rcases hr with ⟨h1, h2⟩ | h1
  · rw [zyFd_0 h1] at h
    rw [zyres_eq h] at h2
    exact Or.inl ⟨h1, h2⟩
  · exact Or.inr h1
theorem zyRr_grow {id : Nat} {E : zyEm} {x y z : Int32} (h : 300 ≤ id) (hr : zyRr id E x y z) : zB x ≤ zB z ∧ zB z ≤ zB x + (id - 300) := by
  rcases hr with ⟨h1, -⟩ | ⟨-, h1⟩
  · omega
  · exact h1
/-- such a J as the reference's contracts are shown for -/
def zyJr (J : zyJt) : Prop := zyJp zydr J ∧ J.2 = zyRr
theorem zyRr_get {id : Nat} {E : zyEm} {x y z : Int32} (hid : id < 100) (h : zyRr id E x y z) : zyRr0 id (zyres E) x y z := by
  rcases h with ⟨-, h2⟩ | ⟨h1, -⟩
  · exact h2
  · omega
theorem zyN1_of {n : Nat} (h : n < 4294967296) : zyN1 (Int32.ofNat n) = n := by
  unfold zyN1
  rw [zN_of]
  omega
/-! rows and columns are those of the base -/
theorem zyg75 (r c : Nat) : zG (zymr r c) 75 = some (zymr75 r c) := rfl
theorem zyL75 (r c : Nat) : zyLen (zymr75 r c) = 556 := by
  show (if (20 : Nat) < 12 then _ else 556) = 556
  rw [if_neg (by decide)]
theorem zyrc {r c : Nat} (hr : r < 2147483648) (hc : c < 2147483648) {B : zCx} {J : zyJt} {s : State} (hI : zyMI (zymr r c) B J s s.heap) : zgr (zyEl (zymr r c) B s.heap) = r ∧ zgc (zyEl (zymr r c) B s.heap) = c := by
  obtain ⟨w0, h1, h2⟩ := hI.2.1 75 _ 0 (zyg75 r c) (by rw [zyL75]; decide)
  obtain ⟨w1, h3, h4⟩ := hI.2.1 75 _ 1 (zyg75 r c) (by rw [zyL75]; decide)
  have e0 := zyv_0 (h2 (0, 0, Nat.mul 8 r) List.mem_cons_self (Nat.le_refl _) (Nat.le_refl _)).2 (show 8 * r % 8 = 0 by omega)
  have e1 := zyv_0 (h4 (1, 1, Nat.mul 8 c) (List.mem_cons_of_mem _ List.mem_cons_self) (Nat.le_refl _) (Nat.le_refl _)).2 (show 8 * c % 8 = 0 by omega)
  rw [show Nat.mul 8 r / 8 = r from by show 8 * r / 8 = r; omega] at e0
  rw [show Nat.mul 8 c / 8 = c from by show 8 * c / 8 = c; omega] at e1
  refine ⟨?_, ?_⟩
  · unfold zgr zyI
    rw [h1, e0]
    exact zyN1_of (by omega)
  · unfold zgc zyI
    rw [h3, e1]
    exact zyN1_of (by omega)
theorem zgr_res {E : zyEm} : zgr (zyres E) = zgr E ∧ zgc (zyres E) = zgc E := by
  unfold zgr zgc
  rw [zyI_res (by omega), zyI_res (by omega)]
  exact ⟨rfl, rfl⟩
theorem zyS_def (r c : Nat) : zyS r c = 8 * (2147483648 * 4294967296 + (2147483647 + 4 * (r * c))) + 2 := rfl
theorem zyS_iff {ρ : Nat → Int32} {N : Nat} {ad : Nat → Nat} {r c : Nat} {x : Int32} (hb : r * c ≤ 20) (h : zyv ρ N ad (zyS r c) (.int x)) : x = Int32.ofNat (zyN1 x) ∧ zyN1 x < zgNS r c := by
  rw [zyS_def] at h
  obtain ⟨x2, e, b1, b2⟩ := zv_2 (zyv_zv h (by omega) (by omega)) (by omega)
  have e := Value.int.inj e
  subst e
  have b1 : 2147483648 ≤ zB x := by omega
  have b2 : zB x ≤ 2147483647 + 4 * (r * c) := by omega
  have e1 := zyN1_lo b1
  have l1 := zB_lt x
  refine ⟨?_, ?_⟩
  · apply zN_inj
    rw [zN_of]
    unfold zyN1
    have := x.toBitVec.isLt
    omega
  · show zyN1 x < 4 * (r * c)
    omega
/-- a method of one slot, by its answers at each slot -/
theorem zyslot1 {l : Launch} {J : zyJt} (hJ : zyJr J) {r c : Nat} (hb : r * c ≤ 20) (hr : r < 2147483648) (hc : c < 2147483648) {y dep id res : Nat} {f : Nat → Nat} {en : zEn} {me : zMe} (hcon : ∀ s, s < zgNS r c → zyCon l (zymr r c) J en me ([595, 8 * s], [], [8 * f s], dep, [], []))
    (hres : ∀ s, s < zgNS r c → ∀ (B : zCx), zyv (fun _ => 0) 0 (zad B) res (.int (Int32.ofNat (f s)))) (hrel : ∀ (E : zyEm) (x y z : Int32), zgr E = r → zgc E = c → z = Int32.ofNat (f (zyN1 x)) → zyRr id E x y z) : zyCon l (zymr r c) J en me ([595, zyS r c], [], [res, id], dep, [], []) := by
  intro B AsV hA
  refine zyMet_pt (fun a s hp => ?_)
  obtain ⟨rfl, hK, hI, hPk⟩ := hp
  obtain ⟨v0, t0, rfl, a1, hA1⟩ := zySt_c hA
  obtain ⟨v1, t1, rfl, a2, hA2⟩ := zySt_c hA1
  have e2 := zySt_n hA2
  subst e2
  obtain ⟨x, rfl⟩ := zyv_int a2 (by rw [zyS_def]; omega)
  obtain ⟨ex, hx⟩ := zyS_iff hb a2
  have hm := hcon (zyN1 x) hx B [v0, .int x] ⟨a1, zyv_mk ex.symm, trivial⟩
  refine ⟨_, _, hm, ⟨rfl, hK, hI, fun p hp => by cases hp⟩, fun o t hq => ?_⟩
  obtain ⟨vo, e1, hv, k1, k2, k3, k4, k5⟩ := hq
  refine ⟨vo, e1, ?_, k1, k2, k3, k4, k5⟩
  cases vo with
  | none => exact hv.elim
  | some q =>
    have e3 := zyv_0 (show zyV (zyX0 B J) (8 * f (zyN1 x)) q from hv) (by omega)
    rw [show 8 * f (zyN1 x) / 8 = f (zyN1 x) by omega] at e3
    subst e3
    refine ⟨_, rfl, hres _ hx B, ?_⟩
    rw [hJ.2]
    obtain ⟨r1, r2⟩ := zyrc hr hc hI
    exact hrel _ _ _ _ r1 r2 rfl
