/-! A LINE is read -/
theorem zytakesR {l : Launch} {r c : Nat} (hp : zyPr r c) {en : zEn} {me : zMe} (hen : zG zxMeta 318 = some en) (hme : zG zMeth 318 = some me) : zyHc l (zymr r c) en me 4 1 zyΦtk zyΨtk := zyHc_r (zytakes hen hme) (fun as E E2 vo h k hk => h.2.1 75 k (by omega)) hp
def zyΦli (_ : List Int32) (E : zyEm) : Prop := zJl E ∧ zPn E ∧ E 74 36 = some (.int (Int32.ofNat 0)) ∧ ∃ s : Nat, 1 ≤ s ∧ s ≤ 4 ∧ E 74 40 = some (.int (Int32.ofNat s))
def zyΨli (_ : List Int32) (E E2 : zyEm) (vo : Option Value) : Prop := vo = none ∧ zyKl E E2 ∧ ∃ w n n' : Nat, w ≤ 9 ∧ E2 74 36 = some (.int (Int32.ofNat w)) ∧ E 74 39 = some (.int (Int32.ofNat n)) ∧ E2 74 39 = some (.int (Int32.ofNat n')) ∧ n' ≤ 901 ∧ (w = 0 → n < n')
theorem zyKl_tr {E E1 E2 : zyEm} (h1 : zyKl E E1) (h2 : zyKl E1 E2) : zyKl E E2 := by
  obtain ⟨a1, a2, a3, a4, n, n1, a5, a6, a7, a8⟩ := h1
  obtain ⟨b1, b2, b3, b4, m, m1, b5, b6, b7, b8⟩ := h2
  rw [a6] at b5
  have e := zyOi (by omega) (by omega) (Value.int.inj (Option.some.inj b5))
  exact ⟨b1, b2, b3.trans a3, fun k => (b4 k).trans (a4 k), n, m1, a5, b6, by omega, b8⟩
theorem zyKl_re {E E1 E2 : zyEm} (h1 : zyKl E E1) (h : ∀ a k, ¬ (a = 74 ∧ 36 ≤ k ∧ k ≤ 37) → E2 a k = E1 a k) : zyKl E E2 := by
  obtain ⟨a1, a2, a3, a4, n, n1, a5, a6, a7, a8⟩ := h1
  exact ⟨zJl_fr (fun k _ => h 75 k (by omega)) a1, zPn_fr (fun k _ _ => h 74 k (by omega)) a2, (h 74 33 (by omega)).trans a3, fun k => (h 76 k (by omega)).trans (a4 k), n, n1, a5, (h 74 39 (by omega)).trans a6, a7, a8⟩
theorem zyKl_tk {E E2 : zyEm} {vo : Option Value} {as : List Int32} (hJ : zJl E) (h : zyΨtk as E E2 vo) : zyKl E E2 := by
  obtain ⟨-, p1, p2, n, n', w, w', g, q1, q2, q3, q4, q5, -⟩ := h
  exact ⟨zJl_fr (fun k _ => p1 75 k (by omega)) hJ, p2, p1 74 33 (by omega), fun k => p1 76 k (by omega), n, n', q2, q3, q4, q5⟩
theorem zylin_run : zyAllP (fun r c => zyrS (zymr r c) zxi327 (327, 0, 0, 0, 0) 10 zplin (fun _ _ => []) zFlin zSlin zXlin zRlin 10) = true := by decide +kernel
theorem zyline {l : Launch} {r c : Nat} (h1 : 1 ≤ r) (h2 : r ≤ 4) (h3 : 1 ≤ c) (h4 : c ≤ 5) {en : zEn} {me : zMe} (hen : zG zxMeta 327 = some en) (hme : zG zMeth 327 = some me) : zyHc l (zymr r c) en me 10 0 zyΦli zyΨli := by
  have een : zG zxMeta 327 = some (zxi327, 1, 1, 11, 327, 0, 0, 0, 0) := rfl
  obtain ⟨me1, hme1, hOK⟩ := zall hen
  rw [hme] at hme1
  cases hme1
  rw [een] at hen
  cases hen
  have hr := zyAllP_iff zylin_run h1 h2 h3 h4
  obtain ⟨mer1, hmer1, -⟩ := zall (show zG zxMeta 321 = some (zxi321, 1, 5, 11, 321, 0, 0, 0, 0) from rfl)
  have hr1 := zyreadsSwitch_L (l := l) (r := r) (c := c) ⟨h1, h2, h3, h4⟩ (show zG zxMeta 321 = some (zxi321, 1, 5, 11, 321, 0, 0, 0, 0) from rfl) hmer1
  obtain ⟨mer2, hmer2, -⟩ := zall (show zG zxMeta 322 = some (zxi322, 1, 2, 11, 322, 0, 0, 0, 0) from rfl)
  have hr2 := zyreadsBobbin_L (l := l) (r := r) (c := c) ⟨h1, h2, h3, h4⟩ (show zG zxMeta 322 = some (zxi322, 1, 2, 11, 322, 0, 0, 0, 0) from rfl) hmer2
  obtain ⟨mer3, hmer3, -⟩ := zall (show zG zxMeta 323 = some (zxi323, 1, 3, 11, 323, 0, 0, 0, 0) from rfl)
  have hr3 := zyreadsStuck_L (l := l) (r := r) (c := c) ⟨h1, h2, h3, h4⟩ (show zG zxMeta 323 = some (zxi323, 1, 3, 11, 323, 0, 0, 0, 0) from rfl) hmer3
  obtain ⟨mer4, hmer4, -⟩ := zall (show zG zxMeta 324 = some (zxi324, 1, 2, 11, 324, 0, 0, 0, 0) from rfl)
  have hr4 := zyreadsFree_L (l := l) (r := r) (c := c) ⟨h1, h2, h3, h4⟩ (show zG zxMeta 324 = some (zxi324, 1, 2, 11, 324, 0, 0, 0, 0) from rfl) hmer4
  obtain ⟨mer5, hmer5, -⟩ := zall (show zG zxMeta 325 = some (zxi325, 1, 3, 11, 325, 0, 0, 0, 0) from rfl)
  have hr5 := zyreadsPlace_L (l := l) (r := r) (c := c) ⟨h1, h2, h3, h4⟩ (show zG zxMeta 325 = some (zxi325, 1, 3, 11, 325, 0, 0, 0, 0) from rfl) hmer5
  obtain ⟨mer6, hmer6, -⟩ := zall (show zG zxMeta 326 = some (zxi326, 1, 2, 11, 326, 0, 0, 0, 0) from rfl)
  have hr6 := zyreadsWord (l := l) h1 h2 h3 h4 (show zG zxMeta 326 = some (zxi326, 1, 2, 11, 326, 0, 0, 0, 0) from rfl) hmer6
  obtain ⟨mesg, hmesg, -⟩ := zall (show zG zxMeta 317 = some (zxi317, 2, 2, 11, 317, 0, 0, 2, 0) from rfl)
  have hsg := zyisSignR (l := l) (r := r) (c := c) ⟨h1, h2, h3, h4⟩ (show zG zxMeta 317 = some (zxi317, 2, 2, 11, 317, 0, 0, 2, 0) from rfl) hmesg
  obtain ⟨metk, hmetk, -⟩ := zall (show zG zxMeta 318 = some (zxi318, 2, 2, 11, 318, 0, 0, 0, 0) from rfl)
  have htk := zytakesR (l := l) (r := r) (c := c) ⟨h1, h2, h3, h4⟩ (show zG zxMeta 318 = some (zxi318, 2, 2, 11, 318, 0, 0, 0, 0) from rfl) hmetk
  refine zycutS (mi := zymr r c) hOK rfl rfl ⟨_, rfl, rfl⟩ (ι := Fin 10) (fun i => zplin i.val) (fun _ _ => []) (fun i => zFlin i.val) (fun i => zSlin i.val) (fun i => zXlin i.val) (fun i => zRlin i.val) (fun i y2 ct en2 me2 h => by cases h) 200000 (fun i => zyAll_iff hr i.val i.isLt) ⟨0, by decide⟩ ⟨rfl, rfl, rfl, rfl⟩ ⟨by decide, by decide⟩
    (fun i as E0 ρ E => (i.val ≤ 1 → E = E0 ∧ zyΦli as E0) ∧ (2 ≤ i.val → zyKl E0 E) ∧ (i.val = 1 → ∃ u : Nat, E0 74 40 = some (.int (Int32.ofNat u)) ∧ ρ 2 = Int32.ofNat u) ∧ (i.val = 8 → ρ 1 = 1 → E 74 36 = some (.int (Int32.ofNat 0)) ∧ E 74 40 = some (.int (Int32.ofNat 3))) ∧ (i.val = 9 → ∃ w n n' : Nat, w ≤ 9 ∧ E 74 36 = some (.int (Int32.ofNat w)) ∧ E0 74 39 = some (.int (Int32.ofNat n)) ∧ E 74 39 = some (.int (Int32.ofNat n')) ∧ n' ≤ 901 ∧ (w = 0 → n < n'))) (fun i as E0 ρ E => 10 - i.val) ?_ ?_ ?_
  · intro as E hlen hT hΦ
    exact ⟨zEnv_c (zyfull _) zEnv_nil, fun _ => ⟨rfl, hΦ⟩, fun h => absurd (show 2 ≤ 0 from h) (by decide), fun h => absurd (show 0 = 1 from h) (by decide), fun h => absurd (show 0 = 8 from h) (by decide), fun h => absurd (show 0 = 9 from h) (by decide)⟩
  · intro as B s Wg hRu hT0 hΦ hlen i ρ H hT hInv hIH x hx ρ2 N2 H2 locs lsB stA hAt hXs hag hfr hT2
    rcases i with ⟨i, hi⟩
    have hi2 : i = 0 ∨ i = 1 ∨ i = 2 ∨ i = 3 ∨ i = 4 ∨ i = 5 ∨ i = 6 ∨ i = 7 ∨ i = 8 ∨ i = 9 := by omega
    rcases hi2 with rfl | rfl | rfl | rfl | rfl | rfl | rfl | rfl | rfl | rfl
    · have hx : x ∈ [zxlin_zx0] := hx
      have hg : ∀ k, k < 1 → ρ2 k = ρ k := hag
      have hI := hInv
      have hI : (0 ≤ 1 → (zyEl (zymr r c) B H) = (zyEl (zymr r c) B s.heap) ∧ zyΦli as (zyEl (zymr r c) B s.heap)) ∧ (2 ≤ 0 → zyKl (zyEl (zymr r c) B s.heap) (zyEl (zymr r c) B H)) ∧ (0 = 1 → ∃ u : Nat, (zyEl (zymr r c) B s.heap) 74 40 = some (.int (Int32.ofNat u)) ∧ ρ 2 = Int32.ofNat u) ∧ (0 = 8 → ρ 1 = 1 → (zyEl (zymr r c) B H) 74 36 = some (.int (Int32.ofNat 0)) ∧ (zyEl (zymr r c) B H) 74 40 = some (.int (Int32.ofNat 3))) ∧ (0 = 9 → ∃ w n n' : Nat, w ≤ 9 ∧ (zyEl (zymr r c) B H) 74 36 = some (.int (Int32.ofNat w)) ∧ (zyEl (zymr r c) B s.heap) 74 39 = some (.int (Int32.ofNat n)) ∧ (zyEl (zymr r c) B H) 74 39 = some (.int (Int32.ofNat n')) ∧ n' ≤ 901 ∧ (w = 0 → n < n')) := hI
      obtain ⟨hF, hB, hM⟩ := hXs
      have hEE : (zyEl (zymr r c) B H2) = (zyEl (zymr r c) B H) := zyfr0 hfr
      have ex := List.mem_singleton.mp hx
      subst ex
      obtain ⟨i0, i2, i1, i8, i9⟩ := hI
      obtain ⟨ea, hΦ1⟩ := i0 (by decide)
      obtain ⟨j1, j2, w0, s, hs1, hs2, so⟩ := hΦ
      refine zyGoAny hIH hAt ⟨1, by decide⟩ [595] (zyρ2k (fun k => zyw ρ2 (zyag [595] k)) (Int32.ofNat 0) (Int32.ofNat s)) rfl rfl (fun i hi => by have hi : i < 1 := hi; rw [show i = 0 by omega]; rfl) (zEnv_c (zyfull _) (zEnv_c ⟨show 2147483648 ≤ zB (Int32.ofNat 0) by decide, show zB (Int32.ofNat 0) ≤ 2147483648 by decide⟩ (zEnv_c ⟨?_, ?_⟩ zEnv_nil))) ?_ ?_ ⟨fun _ => ⟨hEE.trans ea, hΦ1⟩, fun h => absurd (show 2 ≤ 1 from h) (by decide), fun _ => ⟨s, so, rfl⟩, fun h => absurd (show 1 = 8 from h) (by decide), fun h => absurd (show 1 = 9 from h) (by decide)⟩ (show 10 - 1 < 10 - 0 by decide)
      · show 2147483649 ≤ zB (Int32.ofNat s)
        rw [zyBn (by omega)]
        omega
      · show zB (Int32.ofNat s) ≤ 2147483652
        rw [zyBn (by omega)]
        omega
      · rw [zySt_n (show zySt (zyXn B ρ2 N2) [] stA from hAt.2.2.2.2.2)]
        trivial
      · intro z hz
        have hz : z ∈ [(1212452, 34359738369), (1212456, 68719476737)] := hz
        simp only [List.mem_cons, List.not_mem_nil, or_false] at hz
        rcases hz with rfl | rfl
        · exact ⟨zymr74, _, rfl, show 36 < 49 by decide, show zyEl (zymr r c) B H2 74 36 = _ by rw [hEE, ea]; exact w0, zyv_sym (i := 1) (show 1 < 3 by decide) rfl⟩
        · exact ⟨zymr74, _, rfl, show 40 < 49 by decide, show zyEl (zymr r c) B H2 74 40 = _ by rw [hEE, ea]; exact so, zyv_sym (i := 2) (show 2 < 3 by decide) rfl⟩
    · have hx : x ∈ [zxlin_ax0, zxlin_ax1, zxlin_ax2, zxlin_ax3, zxlin_ax4, zxlin_ax5, zxlin_ax6, zxlin_ax7, zxlin_ax8] := hx
      have hg : ∀ k, k < 3 → ρ2 k = ρ k := hag
      have hI := hInv
      have hI : (1 ≤ 1 → (zyEl (zymr r c) B H) = (zyEl (zymr r c) B s.heap) ∧ zyΦli as (zyEl (zymr r c) B s.heap)) ∧ (2 ≤ 1 → zyKl (zyEl (zymr r c) B s.heap) (zyEl (zymr r c) B H)) ∧ (1 = 1 → ∃ u : Nat, (zyEl (zymr r c) B s.heap) 74 40 = some (.int (Int32.ofNat u)) ∧ ρ 2 = Int32.ofNat u) ∧ (1 = 8 → ρ 1 = 1 → (zyEl (zymr r c) B H) 74 36 = some (.int (Int32.ofNat 0)) ∧ (zyEl (zymr r c) B H) 74 40 = some (.int (Int32.ofNat 3))) ∧ (1 = 9 → ∃ w n n' : Nat, w ≤ 9 ∧ (zyEl (zymr r c) B H) 74 36 = some (.int (Int32.ofNat w)) ∧ (zyEl (zymr r c) B s.heap) 74 39 = some (.int (Int32.ofNat n)) ∧ (zyEl (zymr r c) B H) 74 39 = some (.int (Int32.ofNat n')) ∧ n' ≤ 901 ∧ (w = 0 → n < n')) := hI
      obtain ⟨hF, hB, hM⟩ := hXs
      have hfr : ∀ a k, zyin [(74, 36, 37)] a k = false → (zyEl (zymr r c) B H2) a k = (zyEl (zymr r c) B H) a k := hfr
      rcases List.mem_cons.mp hx with ex | hx
      · subst ex
        obtain ⟨i0, i2, i1, i8, i9⟩ := hI
        obtain ⟨ea, -⟩ := i0 (by decide)
        obtain ⟨j1, j2, w0, s9, hs1, hs2, so9⟩ := hΦ
        obtain ⟨n, hn, s1⟩ := zc74r hT0 (k := 39) (lo := 2147483648) (hi := 2147484549) (by decide) rfl (by decide) (by decide)
        have hk : ∀ a k, ¬ (a = 74 ∧ 36 ≤ k ∧ k ≤ 37) → (zyEl (zymr r c) B H2) a k = (zyEl (zymr r c) B H) a k := by
          intro a k n0
          apply hfr
          cases hq : zyin [(74, 36, 37)] a k with
          | false => rfl
          | true =>
            obtain ⟨p0, g1, g2, g3, g4⟩ := zyin_iff.mp hq
            simp only [List.mem_cons, List.not_mem_nil, or_false] at g1
            rcases g1 with rfl
            · exact absurd ⟨g2.symm, g3, g4⟩ n0
        have hk0 : ∀ a k, ¬ (a = 74 ∧ 36 ≤ k ∧ k ≤ 37) → (zyEl (zymr r c) B H2) a k = (zyEl (zymr r c) B s.heap) a k := fun a k n1 => (hk a k n1).trans (by rw [ea])
        have kl : zyKl (zyEl (zymr r c) B s.heap) (zyEl (zymr r c) B H2) := ⟨zJl_fr (fun k _ => hk0 75 k (by omega)) j1, zPn_fr (fun k _ _ => hk0 74 k (by omega)) j2, hk0 74 33 (by omega), fun k => hk0 76 k (by omega), n, n, s1, (hk0 74 39 (by omega)).trans s1, Nat.le_refl _, by omega⟩
        refine zyCaV hRu hIH hAt hB hsg (ix := 466) (ax := 5072) rfl rfl rfl hmesg ⟨rfl, rfl, rfl, rfl⟩ (by decide) [472] [595] rfl (by decide) (by decide) rfl ⟨8, by decide⟩ [595] [(0, 4294967295)] 2147483648 2147483649 rfl (by decide) rfl rfl rfl rfl [595] rfl rfl ?_ ?_
        · show zyΦsg _ _
          exact ⟨kl.2.1, _, rfl⟩
        · intro E3 vo hT3 hΨ
          obtain ⟨e3, z, ez, hz, hz1⟩ := (show zyΨsg _ _ E3 vo from hΨ)
          subst e3
          refine ⟨z, ez, ?_, ?_, ⟨fun h => absurd (show 8 ≤ 1 from h) (by decide), fun _ => kl, fun h => absurd (show 8 = 1 from h) (by decide), fun _ q2 => hz1 (zyρi_e.symm.trans q2), fun h => absurd (show 8 = 9 from h) (by decide)⟩, ?_⟩
          · rcases hz with rfl | rfl <;> decide
          · rcases hz with rfl | rfl <;> decide
          · show 10 - 8 < 10 - 1
            decide
      · skip
        rcases List.mem_cons.mp hx with ex | hx
        · subst ex
          obtain ⟨i0, i2, i1, i8, i9⟩ := hI
          obtain ⟨ea, -⟩ := i0 (by decide)
          obtain ⟨j1, j2, w0, s9, hs1, hs2, so9⟩ := hΦ
          obtain ⟨n, hn, s1⟩ := zc74r hT0 (k := 39) (lo := 2147483648) (hi := 2147484549) (by decide) rfl (by decide) (by decide)
          have hk : ∀ a k, ¬ (a = 74 ∧ 36 ≤ k ∧ k ≤ 37) → (zyEl (zymr r c) B H2) a k = (zyEl (zymr r c) B H) a k := by
            intro a k n0
            apply hfr
            cases hq : zyin [(74, 36, 37)] a k with
            | false => rfl
            | true =>
              obtain ⟨p0, g1, g2, g3, g4⟩ := zyin_iff.mp hq
              simp only [List.mem_cons, List.not_mem_nil, or_false] at g1
              rcases g1 with rfl
              · exact absurd ⟨g2.symm, g3, g4⟩ n0
          have hk0 : ∀ a k, ¬ (a = 74 ∧ 36 ≤ k ∧ k ≤ 37) → (zyEl (zymr r c) B H2) a k = (zyEl (zymr r c) B s.heap) a k := fun a k n1 => (hk a k n1).trans (by rw [ea])
          have kl : zyKl (zyEl (zymr r c) B s.heap) (zyEl (zymr r c) B H2) := ⟨zJl_fr (fun k _ => hk0 75 k (by omega)) j1, zPn_fr (fun k _ _ => hk0 74 k (by omega)) j2, hk0 74 33 (by omega), fun k => hk0 76 k (by omega), n, n, s1, (hk0 74 39 (by omega)).trans s1, Nat.le_refl _, by omega⟩
          refine zyCaV hRu hIH hAt hB hsg (ix := 466) (ax := 5072) rfl rfl rfl hmesg ⟨rfl, rfl, rfl, rfl⟩ (by decide) [472] [595] rfl (by decide) (by decide) rfl ⟨8, by decide⟩ [595] [(0, 4294967295)] 2147483648 2147483649 rfl (by decide) rfl rfl rfl rfl [595] rfl rfl ?_ ?_
          · show zyΦsg _ _
            exact ⟨kl.2.1, _, rfl⟩
          · intro E3 vo hT3 hΨ
            obtain ⟨e3, z, ez, hz, hz1⟩ := (show zyΨsg _ _ E3 vo from hΨ)
            subst e3
            refine ⟨z, ez, ?_, ?_, ⟨fun h => absurd (show 8 ≤ 1 from h) (by decide), fun _ => kl, fun h => absurd (show 8 = 1 from h) (by decide), fun _ q2 => hz1 (zyρi_e.symm.trans q2), fun h => absurd (show 8 = 9 from h) (by decide)⟩, ?_⟩
            · rcases hz with rfl | rfl <;> decide
            · rcases hz with rfl | rfl <;> decide
            · show 10 - 8 < 10 - 1
              decide
        · skip
          rcases List.mem_cons.mp hx with ex | hx
          · subst ex
            obtain ⟨i0, i2, i1, i8, i9⟩ := hI
            obtain ⟨ea, -⟩ := i0 (by decide)
            obtain ⟨j1, j2, w0, s9, hs1, hs2, so9⟩ := hΦ
            obtain ⟨n, hn, s1⟩ := zc74r hT0 (k := 39) (lo := 2147483648) (hi := 2147484549) (by decide) rfl (by decide) (by decide)
            have hk : ∀ a k, ¬ (a = 74 ∧ 36 ≤ k ∧ k ≤ 37) → (zyEl (zymr r c) B H2) a k = (zyEl (zymr r c) B H) a k := by
              intro a k n0
              apply hfr
              cases hq : zyin [(74, 36, 37)] a k with
              | false => rfl
              | true =>
                obtain ⟨p0, g1, g2, g3, g4⟩ := zyin_iff.mp hq
                simp only [List.mem_cons, List.not_mem_nil, or_false] at g1
                rcases g1 with rfl
                · exact absurd ⟨g2.symm, g3, g4⟩ n0
            have hk0 : ∀ a k, ¬ (a = 74 ∧ 36 ≤ k ∧ k ≤ 37) → (zyEl (zymr r c) B H2) a k = (zyEl (zymr r c) B s.heap) a k := fun a k n1 => (hk a k n1).trans (by rw [ea])
            have kl : zyKl (zyEl (zymr r c) B s.heap) (zyEl (zymr r c) B H2) := ⟨zJl_fr (fun k _ => hk0 75 k (by omega)) j1, zPn_fr (fun k _ _ => hk0 74 k (by omega)) j2, hk0 74 33 (by omega), fun k => hk0 76 k (by omega), n, n, s1, (hk0 74 39 (by omega)).trans s1, Nat.le_refl _, by omega⟩
            refine zyCaV hRu hIH hAt hB hsg (ix := 466) (ax := 5072) rfl rfl rfl hmesg ⟨rfl, rfl, rfl, rfl⟩ (by decide) [472] [595] rfl (by decide) (by decide) rfl ⟨8, by decide⟩ [595] [(0, 4294967295)] 2147483648 2147483649 rfl (by decide) rfl rfl rfl rfl [595] rfl rfl ?_ ?_
            · show zyΦsg _ _
              exact ⟨kl.2.1, _, rfl⟩
            · intro E3 vo hT3 hΨ
              obtain ⟨e3, z, ez, hz, hz1⟩ := (show zyΨsg _ _ E3 vo from hΨ)
              subst e3
              refine ⟨z, ez, ?_, ?_, ⟨fun h => absurd (show 8 ≤ 1 from h) (by decide), fun _ => kl, fun h => absurd (show 8 = 1 from h) (by decide), fun _ q2 => hz1 (zyρi_e.symm.trans q2), fun h => absurd (show 8 = 9 from h) (by decide)⟩, ?_⟩
              · rcases hz with rfl | rfl <;> decide
              · rcases hz with rfl | rfl <;> decide
              · show 10 - 8 < 10 - 1
                decide
          · skip
            rcases List.mem_cons.mp hx with ex | hx
            · subst ex
              obtain ⟨i0, i2, i1, i8, i9⟩ := hI
              obtain ⟨ea, -⟩ := i0 (by decide)
              obtain ⟨j1, j2, w0, s9, hs1, hs2, so9⟩ := hΦ
              obtain ⟨n, hn, s1⟩ := zc74r hT0 (k := 39) (lo := 2147483648) (hi := 2147484549) (by decide) rfl (by decide) (by decide)
              have hk : ∀ a k, ¬ (a = 74 ∧ 36 ≤ k ∧ k ≤ 37) → (zyEl (zymr r c) B H2) a k = (zyEl (zymr r c) B H) a k := by
                intro a k n0
                apply hfr
                cases hq : zyin [(74, 36, 37)] a k with
                | false => rfl
                | true =>
                  obtain ⟨p0, g1, g2, g3, g4⟩ := zyin_iff.mp hq
                  simp only [List.mem_cons, List.not_mem_nil, or_false] at g1
                  rcases g1 with rfl
                  · exact absurd ⟨g2.symm, g3, g4⟩ n0
              have hk0 : ∀ a k, ¬ (a = 74 ∧ 36 ≤ k ∧ k ≤ 37) → (zyEl (zymr r c) B H2) a k = (zyEl (zymr r c) B s.heap) a k := fun a k n1 => (hk a k n1).trans (by rw [ea])
              have kl : zyKl (zyEl (zymr r c) B s.heap) (zyEl (zymr r c) B H2) := ⟨zJl_fr (fun k _ => hk0 75 k (by omega)) j1, zPn_fr (fun k _ _ => hk0 74 k (by omega)) j2, hk0 74 33 (by omega), fun k => hk0 76 k (by omega), n, n, s1, (hk0 74 39 (by omega)).trans s1, Nat.le_refl _, by omega⟩
              have m0 := zyXm hM 0 rfl
              have m0 : zyEl (zymr r c) B H2 74 36 = some (.int (ρ2 1)) := m0
              have m1 := zyXm hM 1 rfl
              have m1 : zyEl (zymr r c) B H2 74 40 = some (.int (ρ2 2)) := m1
              have b1 := zyXb hB 0 rfl
              have b1 : 2147483648 ≤ zB (ρ2 1) ∧ zB (ρ2 1) ≤ 2147483648 := b1
              have b2 := zyXb hB 1 rfl
              have b2 : 2147483649 ≤ zB (ρ2 2) ∧ zB (ρ2 2) ≤ 2147483649 := b2
              obtain ⟨o1, o2⟩ := zyOn b1.1
              obtain ⟨o3, o4⟩ := zyOn (show 2147483648 ≤ zB (ρ2 2) by omega)
              rw [o1, show zyN1 (ρ2 1) = 0 by omega] at m0
              rw [o3, show zyN1 (ρ2 2) = 1 by omega] at m1
              refine zyCa0 hRu hIH hAt hB hr6 (ix := 485) (ax := 5216) rfl rfl rfl hmer6 ⟨rfl, rfl, rfl, rfl⟩ (by decide) [] rfl (by decide) rfl ⟨7, by decide⟩ [595] rfl rfl rfl rfl ⟨kl.1, kl.2.1, m0, m1⟩ ?_
              intro E3 vo hT3 hΨ
              obtain ⟨ev, p1⟩ := (show zyΨl _ _ E3 vo from hΨ)
              exact ⟨ev, ⟨fun h => absurd (show 7 ≤ 1 from h) (by decide), fun _ => zyKl_tr kl p1, fun h => absurd (show 7 = 1 from h) (by decide), fun h => absurd (show 7 = 8 from h) (by decide), fun h => absurd (show 7 = 9 from h) (by decide)⟩, (show 10 - 7 < 10 - 1 by decide)⟩
            · skip
              rcases List.mem_cons.mp hx with ex | hx
              · subst ex
                obtain ⟨i0, i2, i1, i8, i9⟩ := hI
                obtain ⟨ea, -⟩ := i0 (by decide)
                obtain ⟨j1, j2, w0, s9, hs1, hs2, so9⟩ := hΦ
                obtain ⟨n, hn, s1⟩ := zc74r hT0 (k := 39) (lo := 2147483648) (hi := 2147484549) (by decide) rfl (by decide) (by decide)
                have hk : ∀ a k, ¬ (a = 74 ∧ 36 ≤ k ∧ k ≤ 37) → (zyEl (zymr r c) B H2) a k = (zyEl (zymr r c) B H) a k := by
                  intro a k n0
                  apply hfr
                  cases hq : zyin [(74, 36, 37)] a k with
                  | false => rfl
                  | true =>
                    obtain ⟨p0, g1, g2, g3, g4⟩ := zyin_iff.mp hq
                    simp only [List.mem_cons, List.not_mem_nil, or_false] at g1
                    rcases g1 with rfl
                    · exact absurd ⟨g2.symm, g3, g4⟩ n0
                have hk0 : ∀ a k, ¬ (a = 74 ∧ 36 ≤ k ∧ k ≤ 37) → (zyEl (zymr r c) B H2) a k = (zyEl (zymr r c) B s.heap) a k := fun a k n1 => (hk a k n1).trans (by rw [ea])
                have kl : zyKl (zyEl (zymr r c) B s.heap) (zyEl (zymr r c) B H2) := ⟨zJl_fr (fun k _ => hk0 75 k (by omega)) j1, zPn_fr (fun k _ _ => hk0 74 k (by omega)) j2, hk0 74 33 (by omega), fun k => hk0 76 k (by omega), n, n, s1, (hk0 74 39 (by omega)).trans s1, Nat.le_refl _, by omega⟩
                have m0 := zyXm hM 0 rfl
                have m0 : zyEl (zymr r c) B H2 74 36 = some (.int (ρ2 1)) := m0
                have m1 := zyXm hM 1 rfl
                have m1 : zyEl (zymr r c) B H2 74 40 = some (.int (ρ2 2)) := m1
                have b1 := zyXb hB 0 rfl
                have b1 : 2147483648 ≤ zB (ρ2 1) ∧ zB (ρ2 1) ≤ 2147483648 := b1
                have b2 := zyXb hB 1 rfl
                have b2 : 2147483649 ≤ zB (ρ2 2) ∧ zB (ρ2 2) ≤ 2147483649 := b2
                obtain ⟨o1, o2⟩ := zyOn b1.1
                obtain ⟨o3, o4⟩ := zyOn (show 2147483648 ≤ zB (ρ2 2) by omega)
                rw [o1, show zyN1 (ρ2 1) = 0 by omega] at m0
                rw [o3, show zyN1 (ρ2 2) = 1 by omega] at m1
                refine zyCa0 hRu hIH hAt hB hr5 (ix := 482) (ax := 5200) rfl rfl rfl hmer5 ⟨rfl, rfl, rfl, rfl⟩ (by decide) [] rfl (by decide) rfl ⟨6, by decide⟩ [595] rfl rfl rfl rfl ⟨kl.1, kl.2.1, m0, m1⟩ ?_
                intro E3 vo hT3 hΨ
                obtain ⟨ev, p1⟩ := (show zyΨl _ _ E3 vo from hΨ)
                exact ⟨ev, ⟨fun h => absurd (show 6 ≤ 1 from h) (by decide), fun _ => zyKl_tr kl p1, fun h => absurd (show 6 = 1 from h) (by decide), fun h => absurd (show 6 = 8 from h) (by decide), fun h => absurd (show 6 = 9 from h) (by decide)⟩, (show 10 - 6 < 10 - 1 by decide)⟩
              · skip
                rcases List.mem_cons.mp hx with ex | hx
                · subst ex
                  obtain ⟨i0, i2, i1, i8, i9⟩ := hI
                  obtain ⟨ea, -⟩ := i0 (by decide)
                  obtain ⟨j1, j2, w0, s9, hs1, hs2, so9⟩ := hΦ
                  obtain ⟨n, hn, s1⟩ := zc74r hT0 (k := 39) (lo := 2147483648) (hi := 2147484549) (by decide) rfl (by decide) (by decide)
                  have hk : ∀ a k, ¬ (a = 74 ∧ 36 ≤ k ∧ k ≤ 37) → (zyEl (zymr r c) B H2) a k = (zyEl (zymr r c) B H) a k := by
                    intro a k n0
                    apply hfr
                    cases hq : zyin [(74, 36, 37)] a k with
                    | false => rfl
                    | true =>
                      obtain ⟨p0, g1, g2, g3, g4⟩ := zyin_iff.mp hq
                      simp only [List.mem_cons, List.not_mem_nil, or_false] at g1
                      rcases g1 with rfl
                      · exact absurd ⟨g2.symm, g3, g4⟩ n0
                  have hk0 : ∀ a k, ¬ (a = 74 ∧ 36 ≤ k ∧ k ≤ 37) → (zyEl (zymr r c) B H2) a k = (zyEl (zymr r c) B s.heap) a k := fun a k n1 => (hk a k n1).trans (by rw [ea])
                  have kl : zyKl (zyEl (zymr r c) B s.heap) (zyEl (zymr r c) B H2) := ⟨zJl_fr (fun k _ => hk0 75 k (by omega)) j1, zPn_fr (fun k _ _ => hk0 74 k (by omega)) j2, hk0 74 33 (by omega), fun k => hk0 76 k (by omega), n, n, s1, (hk0 74 39 (by omega)).trans s1, Nat.le_refl _, by omega⟩
                  have m0 := zyXm hM 0 rfl
                  have m0 : zyEl (zymr r c) B H2 74 36 = some (.int (ρ2 1)) := m0
                  have m1 := zyXm hM 1 rfl
                  have m1 : zyEl (zymr r c) B H2 74 40 = some (.int (ρ2 2)) := m1
                  have b1 := zyXb hB 0 rfl
                  have b1 : 2147483648 ≤ zB (ρ2 1) ∧ zB (ρ2 1) ≤ 2147483648 := b1
                  have b2 := zyXb hB 1 rfl
                  have b2 : 2147483649 ≤ zB (ρ2 2) ∧ zB (ρ2 2) ≤ 2147483649 := b2
                  obtain ⟨o1, o2⟩ := zyOn b1.1
                  obtain ⟨o3, o4⟩ := zyOn (show 2147483648 ≤ zB (ρ2 2) by omega)
                  rw [o1, show zyN1 (ρ2 1) = 0 by omega] at m0
                  rw [o3, show zyN1 (ρ2 2) = 1 by omega] at m1
                  refine zyCa0 hRu hIH hAt hB hr4 (ix := 479) (ax := 5184) rfl rfl rfl hmer4 ⟨rfl, rfl, rfl, rfl⟩ (by decide) [] rfl (by decide) rfl ⟨5, by decide⟩ [595] rfl rfl rfl rfl ⟨kl.1, kl.2.1, m0, m1⟩ ?_
                  intro E3 vo hT3 hΨ
                  obtain ⟨ev, p1⟩ := (show zyΨl _ _ E3 vo from hΨ)
                  exact ⟨ev, ⟨fun h => absurd (show 5 ≤ 1 from h) (by decide), fun _ => zyKl_tr kl p1, fun h => absurd (show 5 = 1 from h) (by decide), fun h => absurd (show 5 = 8 from h) (by decide), fun h => absurd (show 5 = 9 from h) (by decide)⟩, (show 10 - 5 < 10 - 1 by decide)⟩
                · skip
                  rcases List.mem_cons.mp hx with ex | hx
                  · subst ex
                    obtain ⟨i0, i2, i1, i8, i9⟩ := hI
                    obtain ⟨ea, -⟩ := i0 (by decide)
                    obtain ⟨j1, j2, w0, s9, hs1, hs2, so9⟩ := hΦ
                    obtain ⟨n, hn, s1⟩ := zc74r hT0 (k := 39) (lo := 2147483648) (hi := 2147484549) (by decide) rfl (by decide) (by decide)
                    have hk : ∀ a k, ¬ (a = 74 ∧ 36 ≤ k ∧ k ≤ 37) → (zyEl (zymr r c) B H2) a k = (zyEl (zymr r c) B H) a k := by
                      intro a k n0
                      apply hfr
                      cases hq : zyin [(74, 36, 37)] a k with
                      | false => rfl
                      | true =>
                        obtain ⟨p0, g1, g2, g3, g4⟩ := zyin_iff.mp hq
                        simp only [List.mem_cons, List.not_mem_nil, or_false] at g1
                        rcases g1 with rfl
                        · exact absurd ⟨g2.symm, g3, g4⟩ n0
                    have hk0 : ∀ a k, ¬ (a = 74 ∧ 36 ≤ k ∧ k ≤ 37) → (zyEl (zymr r c) B H2) a k = (zyEl (zymr r c) B s.heap) a k := fun a k n1 => (hk a k n1).trans (by rw [ea])
                    have kl : zyKl (zyEl (zymr r c) B s.heap) (zyEl (zymr r c) B H2) := ⟨zJl_fr (fun k _ => hk0 75 k (by omega)) j1, zPn_fr (fun k _ _ => hk0 74 k (by omega)) j2, hk0 74 33 (by omega), fun k => hk0 76 k (by omega), n, n, s1, (hk0 74 39 (by omega)).trans s1, Nat.le_refl _, by omega⟩
                    have m0 := zyXm hM 0 rfl
                    have m0 : zyEl (zymr r c) B H2 74 36 = some (.int (ρ2 1)) := m0
                    have m1 := zyXm hM 1 rfl
                    have m1 : zyEl (zymr r c) B H2 74 40 = some (.int (ρ2 2)) := m1
                    have b1 := zyXb hB 0 rfl
                    have b1 : 2147483648 ≤ zB (ρ2 1) ∧ zB (ρ2 1) ≤ 2147483648 := b1
                    have b2 := zyXb hB 1 rfl
                    have b2 : 2147483649 ≤ zB (ρ2 2) ∧ zB (ρ2 2) ≤ 2147483649 := b2
                    obtain ⟨o1, o2⟩ := zyOn b1.1
                    obtain ⟨o3, o4⟩ := zyOn (show 2147483648 ≤ zB (ρ2 2) by omega)
                    rw [o1, show zyN1 (ρ2 1) = 0 by omega] at m0
                    rw [o3, show zyN1 (ρ2 2) = 1 by omega] at m1
                    refine zyCa0 hRu hIH hAt hB hr3 (ix := 476) (ax := 5168) rfl rfl rfl hmer3 ⟨rfl, rfl, rfl, rfl⟩ (by decide) [] rfl (by decide) rfl ⟨4, by decide⟩ [595] rfl rfl rfl rfl ⟨kl.1, kl.2.1, m0, m1⟩ ?_
                    intro E3 vo hT3 hΨ
                    obtain ⟨ev, p1⟩ := (show zyΨl _ _ E3 vo from hΨ)
                    exact ⟨ev, ⟨fun h => absurd (show 4 ≤ 1 from h) (by decide), fun _ => zyKl_tr kl p1, fun h => absurd (show 4 = 1 from h) (by decide), fun h => absurd (show 4 = 8 from h) (by decide), fun h => absurd (show 4 = 9 from h) (by decide)⟩, (show 10 - 4 < 10 - 1 by decide)⟩
                  · skip
                    rcases List.mem_cons.mp hx with ex | hx
                    · subst ex
                      obtain ⟨i0, i2, i1, i8, i9⟩ := hI
                      obtain ⟨ea, -⟩ := i0 (by decide)
                      obtain ⟨j1, j2, w0, s9, hs1, hs2, so9⟩ := hΦ
                      obtain ⟨n, hn, s1⟩ := zc74r hT0 (k := 39) (lo := 2147483648) (hi := 2147484549) (by decide) rfl (by decide) (by decide)
                      have hk : ∀ a k, ¬ (a = 74 ∧ 36 ≤ k ∧ k ≤ 37) → (zyEl (zymr r c) B H2) a k = (zyEl (zymr r c) B H) a k := by
                        intro a k n0
                        apply hfr
                        cases hq : zyin [(74, 36, 37)] a k with
                        | false => rfl
                        | true =>
                          obtain ⟨p0, g1, g2, g3, g4⟩ := zyin_iff.mp hq
                          simp only [List.mem_cons, List.not_mem_nil, or_false] at g1
                          rcases g1 with rfl
                          · exact absurd ⟨g2.symm, g3, g4⟩ n0
                      have hk0 : ∀ a k, ¬ (a = 74 ∧ 36 ≤ k ∧ k ≤ 37) → (zyEl (zymr r c) B H2) a k = (zyEl (zymr r c) B s.heap) a k := fun a k n1 => (hk a k n1).trans (by rw [ea])
                      have kl : zyKl (zyEl (zymr r c) B s.heap) (zyEl (zymr r c) B H2) := ⟨zJl_fr (fun k _ => hk0 75 k (by omega)) j1, zPn_fr (fun k _ _ => hk0 74 k (by omega)) j2, hk0 74 33 (by omega), fun k => hk0 76 k (by omega), n, n, s1, (hk0 74 39 (by omega)).trans s1, Nat.le_refl _, by omega⟩
                      have m0 := zyXm hM 0 rfl
                      have m0 : zyEl (zymr r c) B H2 74 36 = some (.int (ρ2 1)) := m0
                      have m1 := zyXm hM 1 rfl
                      have m1 : zyEl (zymr r c) B H2 74 40 = some (.int (ρ2 2)) := m1
                      have b1 := zyXb hB 0 rfl
                      have b1 : 2147483648 ≤ zB (ρ2 1) ∧ zB (ρ2 1) ≤ 2147483648 := b1
                      have b2 := zyXb hB 1 rfl
                      have b2 : 2147483649 ≤ zB (ρ2 2) ∧ zB (ρ2 2) ≤ 2147483649 := b2
                      obtain ⟨o1, o2⟩ := zyOn b1.1
                      obtain ⟨o3, o4⟩ := zyOn (show 2147483648 ≤ zB (ρ2 2) by omega)
                      rw [o1, show zyN1 (ρ2 1) = 0 by omega] at m0
                      rw [o3, show zyN1 (ρ2 2) = 1 by omega] at m1
                      refine zyCa0 hRu hIH hAt hB hr2 (ix := 473) (ax := 5152) rfl rfl rfl hmer2 ⟨rfl, rfl, rfl, rfl⟩ (by decide) [] rfl (by decide) rfl ⟨3, by decide⟩ [595] rfl rfl rfl rfl ⟨kl.1, kl.2.1, m0, m1⟩ ?_
                      intro E3 vo hT3 hΨ
                      obtain ⟨ev, p1⟩ := (show zyΨl _ _ E3 vo from hΨ)
                      exact ⟨ev, ⟨fun h => absurd (show 3 ≤ 1 from h) (by decide), fun _ => zyKl_tr kl p1, fun h => absurd (show 3 = 1 from h) (by decide), fun h => absurd (show 3 = 8 from h) (by decide), fun h => absurd (show 3 = 9 from h) (by decide)⟩, (show 10 - 3 < 10 - 1 by decide)⟩
                    · skip
                      have ex := List.mem_singleton.mp hx
                      subst ex
                      obtain ⟨i0, i2, i1, i8, i9⟩ := hI
                      obtain ⟨ea, -⟩ := i0 (by decide)
                      obtain ⟨j1, j2, w0, s9, hs1, hs2, so9⟩ := hΦ
                      obtain ⟨n, hn, s1⟩ := zc74r hT0 (k := 39) (lo := 2147483648) (hi := 2147484549) (by decide) rfl (by decide) (by decide)
                      have hk : ∀ a k, ¬ (a = 74 ∧ 36 ≤ k ∧ k ≤ 37) → (zyEl (zymr r c) B H2) a k = (zyEl (zymr r c) B H) a k := by
                        intro a k n0
                        apply hfr
                        cases hq : zyin [(74, 36, 37)] a k with
                        | false => rfl
                        | true =>
                          obtain ⟨p0, g1, g2, g3, g4⟩ := zyin_iff.mp hq
                          simp only [List.mem_cons, List.not_mem_nil, or_false] at g1
                          rcases g1 with rfl
                          · exact absurd ⟨g2.symm, g3, g4⟩ n0
                      have hk0 : ∀ a k, ¬ (a = 74 ∧ 36 ≤ k ∧ k ≤ 37) → (zyEl (zymr r c) B H2) a k = (zyEl (zymr r c) B s.heap) a k := fun a k n1 => (hk a k n1).trans (by rw [ea])
                      have kl : zyKl (zyEl (zymr r c) B s.heap) (zyEl (zymr r c) B H2) := ⟨zJl_fr (fun k _ => hk0 75 k (by omega)) j1, zPn_fr (fun k _ _ => hk0 74 k (by omega)) j2, hk0 74 33 (by omega), fun k => hk0 76 k (by omega), n, n, s1, (hk0 74 39 (by omega)).trans s1, Nat.le_refl _, by omega⟩
                      have m0 := zyXm hM 0 rfl
                      have m0 : zyEl (zymr r c) B H2 74 36 = some (.int (ρ2 1)) := m0
                      have m1 := zyXm hM 1 rfl
                      have m1 : zyEl (zymr r c) B H2 74 40 = some (.int (ρ2 2)) := m1
                      have b1 := zyXb hB 0 rfl
                      have b1 : 2147483648 ≤ zB (ρ2 1) ∧ zB (ρ2 1) ≤ 2147483648 := b1
                      have b2 := zyXb hB 1 rfl
                      have b2 : 2147483649 ≤ zB (ρ2 2) ∧ zB (ρ2 2) ≤ 2147483649 := b2
                      obtain ⟨o1, o2⟩ := zyOn b1.1
                      obtain ⟨o3, o4⟩ := zyOn (show 2147483648 ≤ zB (ρ2 2) by omega)
                      rw [o1, show zyN1 (ρ2 1) = 0 by omega] at m0
                      rw [o3, show zyN1 (ρ2 2) = 1 by omega] at m1
                      refine zyCa0 hRu hIH hAt hB hr1 (ix := 470) (ax := 5136) rfl rfl rfl hmer1 ⟨rfl, rfl, rfl, rfl⟩ (by decide) [] rfl (by decide) rfl ⟨2, by decide⟩ [595] rfl rfl rfl rfl ⟨kl.1, kl.2.1, m0, m1⟩ ?_
                      intro E3 vo hT3 hΨ
                      obtain ⟨ev, p1⟩ := (show zyΨl _ _ E3 vo from hΨ)
                      exact ⟨ev, ⟨fun h => absurd (show 2 ≤ 1 from h) (by decide), fun _ => zyKl_tr kl p1, fun h => absurd (show 2 = 1 from h) (by decide), fun h => absurd (show 2 = 8 from h) (by decide), fun h => absurd (show 2 = 9 from h) (by decide)⟩, (show 10 - 2 < 10 - 1 by decide)⟩
    · have hx : x ∈ [zxlin_bx0] := hx
      have hg : ∀ k, k < 1 → ρ2 k = ρ k := hag
      have hI := hInv
      have hI : (2 ≤ 1 → (zyEl (zymr r c) B H) = (zyEl (zymr r c) B s.heap) ∧ zyΦli as (zyEl (zymr r c) B s.heap)) ∧ (2 ≤ 2 → zyKl (zyEl (zymr r c) B s.heap) (zyEl (zymr r c) B H)) ∧ (2 = 1 → ∃ u : Nat, (zyEl (zymr r c) B s.heap) 74 40 = some (.int (Int32.ofNat u)) ∧ ρ 2 = Int32.ofNat u) ∧ (2 = 8 → ρ 1 = 1 → (zyEl (zymr r c) B H) 74 36 = some (.int (Int32.ofNat 0)) ∧ (zyEl (zymr r c) B H) 74 40 = some (.int (Int32.ofNat 3))) ∧ (2 = 9 → ∃ w n n' : Nat, w ≤ 9 ∧ (zyEl (zymr r c) B H) 74 36 = some (.int (Int32.ofNat w)) ∧ (zyEl (zymr r c) B s.heap) 74 39 = some (.int (Int32.ofNat n)) ∧ (zyEl (zymr r c) B H) 74 39 = some (.int (Int32.ofNat n')) ∧ n' ≤ 901 ∧ (w = 0 → n < n')) := hI
      obtain ⟨hF, hB, hM⟩ := hXs
      have hEE : (zyEl (zymr r c) B H2) = (zyEl (zymr r c) B H) := zyfr0 hfr
      have ex := List.mem_singleton.mp hx
      subst ex
      obtain ⟨i0, i2, i1, i8, i9⟩ := hI
      have kl := i2 (by decide)
      rw [← hEE] at kl
      refine zyCaV hRu hIH hAt hB hsg (ix := 466) (ax := 5072) rfl rfl rfl hmesg ⟨rfl, rfl, rfl, rfl⟩ (by decide) [472] [595] rfl (by decide) (by decide) rfl ⟨8, by decide⟩ [595] [(0, 4294967295)] 2147483648 2147483649 rfl (by decide) rfl rfl rfl rfl [595] rfl rfl ?_ ?_
      · show zyΦsg _ _
        exact ⟨kl.2.1, _, rfl⟩
      · intro E3 vo hT3 hΨ
        obtain ⟨e3, z, ez, hz, hz1⟩ := (show zyΨsg _ _ E3 vo from hΨ)
        subst e3
        refine ⟨z, ez, ?_, ?_, ⟨fun h => absurd (show 8 ≤ 1 from h) (by decide), fun _ => kl, fun h => absurd (show 8 = 1 from h) (by decide), fun _ q2 => hz1 (zyρi_e.symm.trans q2), fun h => absurd (show 8 = 9 from h) (by decide)⟩, ?_⟩
        · rcases hz with rfl | rfl <;> decide
        · rcases hz with rfl | rfl <;> decide
        · show 10 - 8 < 10 - 2
          decide
    · have hx : x ∈ [zxlin_cx0] := hx
      have hg : ∀ k, k < 1 → ρ2 k = ρ k := hag
      have hI := hInv
      have hI : (3 ≤ 1 → (zyEl (zymr r c) B H) = (zyEl (zymr r c) B s.heap) ∧ zyΦli as (zyEl (zymr r c) B s.heap)) ∧ (2 ≤ 3 → zyKl (zyEl (zymr r c) B s.heap) (zyEl (zymr r c) B H)) ∧ (3 = 1 → ∃ u : Nat, (zyEl (zymr r c) B s.heap) 74 40 = some (.int (Int32.ofNat u)) ∧ ρ 2 = Int32.ofNat u) ∧ (3 = 8 → ρ 1 = 1 → (zyEl (zymr r c) B H) 74 36 = some (.int (Int32.ofNat 0)) ∧ (zyEl (zymr r c) B H) 74 40 = some (.int (Int32.ofNat 3))) ∧ (3 = 9 → ∃ w n n' : Nat, w ≤ 9 ∧ (zyEl (zymr r c) B H) 74 36 = some (.int (Int32.ofNat w)) ∧ (zyEl (zymr r c) B s.heap) 74 39 = some (.int (Int32.ofNat n)) ∧ (zyEl (zymr r c) B H) 74 39 = some (.int (Int32.ofNat n')) ∧ n' ≤ 901 ∧ (w = 0 → n < n')) := hI
      obtain ⟨hF, hB, hM⟩ := hXs
      have hEE : (zyEl (zymr r c) B H2) = (zyEl (zymr r c) B H) := zyfr0 hfr
      have ex := List.mem_singleton.mp hx
      subst ex
      obtain ⟨i0, i2, i1, i8, i9⟩ := hI
      have kl := i2 (by decide)
      rw [← hEE] at kl
      refine zyCaV hRu hIH hAt hB hsg (ix := 466) (ax := 5072) rfl rfl rfl hmesg ⟨rfl, rfl, rfl, rfl⟩ (by decide) [472] [595] rfl (by decide) (by decide) rfl ⟨8, by decide⟩ [595] [(0, 4294967295)] 2147483648 2147483649 rfl (by decide) rfl rfl rfl rfl [595] rfl rfl ?_ ?_
      · show zyΦsg _ _
        exact ⟨kl.2.1, _, rfl⟩
      · intro E3 vo hT3 hΨ
        obtain ⟨e3, z, ez, hz, hz1⟩ := (show zyΨsg _ _ E3 vo from hΨ)
        subst e3
        refine ⟨z, ez, ?_, ?_, ⟨fun h => absurd (show 8 ≤ 1 from h) (by decide), fun _ => kl, fun h => absurd (show 8 = 1 from h) (by decide), fun _ q2 => hz1 (zyρi_e.symm.trans q2), fun h => absurd (show 8 = 9 from h) (by decide)⟩, ?_⟩
        · rcases hz with rfl | rfl <;> decide
        · rcases hz with rfl | rfl <;> decide
        · show 10 - 8 < 10 - 3
          decide
    · have hx : x ∈ [zxlin_dx0] := hx
      have hg : ∀ k, k < 1 → ρ2 k = ρ k := hag
      have hI := hInv
      have hI : (4 ≤ 1 → (zyEl (zymr r c) B H) = (zyEl (zymr r c) B s.heap) ∧ zyΦli as (zyEl (zymr r c) B s.heap)) ∧ (2 ≤ 4 → zyKl (zyEl (zymr r c) B s.heap) (zyEl (zymr r c) B H)) ∧ (4 = 1 → ∃ u : Nat, (zyEl (zymr r c) B s.heap) 74 40 = some (.int (Int32.ofNat u)) ∧ ρ 2 = Int32.ofNat u) ∧ (4 = 8 → ρ 1 = 1 → (zyEl (zymr r c) B H) 74 36 = some (.int (Int32.ofNat 0)) ∧ (zyEl (zymr r c) B H) 74 40 = some (.int (Int32.ofNat 3))) ∧ (4 = 9 → ∃ w n n' : Nat, w ≤ 9 ∧ (zyEl (zymr r c) B H) 74 36 = some (.int (Int32.ofNat w)) ∧ (zyEl (zymr r c) B s.heap) 74 39 = some (.int (Int32.ofNat n)) ∧ (zyEl (zymr r c) B H) 74 39 = some (.int (Int32.ofNat n')) ∧ n' ≤ 901 ∧ (w = 0 → n < n')) := hI
      obtain ⟨hF, hB, hM⟩ := hXs
      have hEE : (zyEl (zymr r c) B H2) = (zyEl (zymr r c) B H) := zyfr0 hfr
      have ex := List.mem_singleton.mp hx
      subst ex
      obtain ⟨i0, i2, i1, i8, i9⟩ := hI
      have kl := i2 (by decide)
      rw [← hEE] at kl
      refine zyCaV hRu hIH hAt hB hsg (ix := 466) (ax := 5072) rfl rfl rfl hmesg ⟨rfl, rfl, rfl, rfl⟩ (by decide) [472] [595] rfl (by decide) (by decide) rfl ⟨8, by decide⟩ [595] [(0, 4294967295)] 2147483648 2147483649 rfl (by decide) rfl rfl rfl rfl [595] rfl rfl ?_ ?_
      · show zyΦsg _ _
        exact ⟨kl.2.1, _, rfl⟩
      · intro E3 vo hT3 hΨ
        obtain ⟨e3, z, ez, hz, hz1⟩ := (show zyΨsg _ _ E3 vo from hΨ)
        subst e3
        refine ⟨z, ez, ?_, ?_, ⟨fun h => absurd (show 8 ≤ 1 from h) (by decide), fun _ => kl, fun h => absurd (show 8 = 1 from h) (by decide), fun _ q2 => hz1 (zyρi_e.symm.trans q2), fun h => absurd (show 8 = 9 from h) (by decide)⟩, ?_⟩
        · rcases hz with rfl | rfl <;> decide
        · rcases hz with rfl | rfl <;> decide
        · show 10 - 8 < 10 - 4
          decide
    · have hx : x ∈ [zxlin_ex0] := hx
      have hg : ∀ k, k < 1 → ρ2 k = ρ k := hag
      have hI := hInv
      have hI : (5 ≤ 1 → (zyEl (zymr r c) B H) = (zyEl (zymr r c) B s.heap) ∧ zyΦli as (zyEl (zymr r c) B s.heap)) ∧ (2 ≤ 5 → zyKl (zyEl (zymr r c) B s.heap) (zyEl (zymr r c) B H)) ∧ (5 = 1 → ∃ u : Nat, (zyEl (zymr r c) B s.heap) 74 40 = some (.int (Int32.ofNat u)) ∧ ρ 2 = Int32.ofNat u) ∧ (5 = 8 → ρ 1 = 1 → (zyEl (zymr r c) B H) 74 36 = some (.int (Int32.ofNat 0)) ∧ (zyEl (zymr r c) B H) 74 40 = some (.int (Int32.ofNat 3))) ∧ (5 = 9 → ∃ w n n' : Nat, w ≤ 9 ∧ (zyEl (zymr r c) B H) 74 36 = some (.int (Int32.ofNat w)) ∧ (zyEl (zymr r c) B s.heap) 74 39 = some (.int (Int32.ofNat n)) ∧ (zyEl (zymr r c) B H) 74 39 = some (.int (Int32.ofNat n')) ∧ n' ≤ 901 ∧ (w = 0 → n < n')) := hI
      obtain ⟨hF, hB, hM⟩ := hXs
      have hEE : (zyEl (zymr r c) B H2) = (zyEl (zymr r c) B H) := zyfr0 hfr
      have ex := List.mem_singleton.mp hx
      subst ex
      obtain ⟨i0, i2, i1, i8, i9⟩ := hI
      have kl := i2 (by decide)
      rw [← hEE] at kl
      refine zyCaV hRu hIH hAt hB hsg (ix := 466) (ax := 5072) rfl rfl rfl hmesg ⟨rfl, rfl, rfl, rfl⟩ (by decide) [472] [595] rfl (by decide) (by decide) rfl ⟨8, by decide⟩ [595] [(0, 4294967295)] 2147483648 2147483649 rfl (by decide) rfl rfl rfl rfl [595] rfl rfl ?_ ?_
      · show zyΦsg _ _
        exact ⟨kl.2.1, _, rfl⟩
      · intro E3 vo hT3 hΨ
        obtain ⟨e3, z, ez, hz, hz1⟩ := (show zyΨsg _ _ E3 vo from hΨ)
        subst e3
        refine ⟨z, ez, ?_, ?_, ⟨fun h => absurd (show 8 ≤ 1 from h) (by decide), fun _ => kl, fun h => absurd (show 8 = 1 from h) (by decide), fun _ q2 => hz1 (zyρi_e.symm.trans q2), fun h => absurd (show 8 = 9 from h) (by decide)⟩, ?_⟩
        · rcases hz with rfl | rfl <;> decide
        · rcases hz with rfl | rfl <;> decide
        · show 10 - 8 < 10 - 5
          decide
    · have hx : x ∈ [zxlin_fx0] := hx
      have hg : ∀ k, k < 1 → ρ2 k = ρ k := hag
      have hI := hInv
      have hI : (6 ≤ 1 → (zyEl (zymr r c) B H) = (zyEl (zymr r c) B s.heap) ∧ zyΦli as (zyEl (zymr r c) B s.heap)) ∧ (2 ≤ 6 → zyKl (zyEl (zymr r c) B s.heap) (zyEl (zymr r c) B H)) ∧ (6 = 1 → ∃ u : Nat, (zyEl (zymr r c) B s.heap) 74 40 = some (.int (Int32.ofNat u)) ∧ ρ 2 = Int32.ofNat u) ∧ (6 = 8 → ρ 1 = 1 → (zyEl (zymr r c) B H) 74 36 = some (.int (Int32.ofNat 0)) ∧ (zyEl (zymr r c) B H) 74 40 = some (.int (Int32.ofNat 3))) ∧ (6 = 9 → ∃ w n n' : Nat, w ≤ 9 ∧ (zyEl (zymr r c) B H) 74 36 = some (.int (Int32.ofNat w)) ∧ (zyEl (zymr r c) B s.heap) 74 39 = some (.int (Int32.ofNat n)) ∧ (zyEl (zymr r c) B H) 74 39 = some (.int (Int32.ofNat n')) ∧ n' ≤ 901 ∧ (w = 0 → n < n')) := hI
      obtain ⟨hF, hB, hM⟩ := hXs
      have hEE : (zyEl (zymr r c) B H2) = (zyEl (zymr r c) B H) := zyfr0 hfr
      have ex := List.mem_singleton.mp hx
      subst ex
      obtain ⟨i0, i2, i1, i8, i9⟩ := hI
      have kl := i2 (by decide)
      rw [← hEE] at kl
      refine zyCaV hRu hIH hAt hB hsg (ix := 466) (ax := 5072) rfl rfl rfl hmesg ⟨rfl, rfl, rfl, rfl⟩ (by decide) [472] [595] rfl (by decide) (by decide) rfl ⟨8, by decide⟩ [595] [(0, 4294967295)] 2147483648 2147483649 rfl (by decide) rfl rfl rfl rfl [595] rfl rfl ?_ ?_
      · show zyΦsg _ _
        exact ⟨kl.2.1, _, rfl⟩
      · intro E3 vo hT3 hΨ
        obtain ⟨e3, z, ez, hz, hz1⟩ := (show zyΨsg _ _ E3 vo from hΨ)
        subst e3
        refine ⟨z, ez, ?_, ?_, ⟨fun h => absurd (show 8 ≤ 1 from h) (by decide), fun _ => kl, fun h => absurd (show 8 = 1 from h) (by decide), fun _ q2 => hz1 (zyρi_e.symm.trans q2), fun h => absurd (show 8 = 9 from h) (by decide)⟩, ?_⟩
        · rcases hz with rfl | rfl <;> decide
        · rcases hz with rfl | rfl <;> decide
        · show 10 - 8 < 10 - 6
          decide
    · have hx : x ∈ [zxlin_gx0] := hx
      have hg : ∀ k, k < 1 → ρ2 k = ρ k := hag
      have hI := hInv
      have hI : (7 ≤ 1 → (zyEl (zymr r c) B H) = (zyEl (zymr r c) B s.heap) ∧ zyΦli as (zyEl (zymr r c) B s.heap)) ∧ (2 ≤ 7 → zyKl (zyEl (zymr r c) B s.heap) (zyEl (zymr r c) B H)) ∧ (7 = 1 → ∃ u : Nat, (zyEl (zymr r c) B s.heap) 74 40 = some (.int (Int32.ofNat u)) ∧ ρ 2 = Int32.ofNat u) ∧ (7 = 8 → ρ 1 = 1 → (zyEl (zymr r c) B H) 74 36 = some (.int (Int32.ofNat 0)) ∧ (zyEl (zymr r c) B H) 74 40 = some (.int (Int32.ofNat 3))) ∧ (7 = 9 → ∃ w n n' : Nat, w ≤ 9 ∧ (zyEl (zymr r c) B H) 74 36 = some (.int (Int32.ofNat w)) ∧ (zyEl (zymr r c) B s.heap) 74 39 = some (.int (Int32.ofNat n)) ∧ (zyEl (zymr r c) B H) 74 39 = some (.int (Int32.ofNat n')) ∧ n' ≤ 901 ∧ (w = 0 → n < n')) := hI
      obtain ⟨hF, hB, hM⟩ := hXs
      have hEE : (zyEl (zymr r c) B H2) = (zyEl (zymr r c) B H) := zyfr0 hfr
      have ex := List.mem_singleton.mp hx
      subst ex
      obtain ⟨i0, i2, i1, i8, i9⟩ := hI
      have kl := i2 (by decide)
      rw [← hEE] at kl
      refine zyCaV hRu hIH hAt hB hsg (ix := 466) (ax := 5072) rfl rfl rfl hmesg ⟨rfl, rfl, rfl, rfl⟩ (by decide) [472] [595] rfl (by decide) (by decide) rfl ⟨8, by decide⟩ [595] [(0, 4294967295)] 2147483648 2147483649 rfl (by decide) rfl rfl rfl rfl [595] rfl rfl ?_ ?_
      · show zyΦsg _ _
        exact ⟨kl.2.1, _, rfl⟩
      · intro E3 vo hT3 hΨ
        obtain ⟨e3, z, ez, hz, hz1⟩ := (show zyΨsg _ _ E3 vo from hΨ)
        subst e3
        refine ⟨z, ez, ?_, ?_, ⟨fun h => absurd (show 8 ≤ 1 from h) (by decide), fun _ => kl, fun h => absurd (show 8 = 1 from h) (by decide), fun _ q2 => hz1 (zyρi_e.symm.trans q2), fun h => absurd (show 8 = 9 from h) (by decide)⟩, ?_⟩
        · rcases hz with rfl | rfl <;> decide
        · rcases hz with rfl | rfl <;> decide
        · show 10 - 8 < 10 - 7
          decide
    · have hx : x ∈ [zxlin_hx0] := hx
      have hg : ∀ k, k < 2 → ρ2 k = ρ k := hag
      have hI := hInv
      have hI : (8 ≤ 1 → (zyEl (zymr r c) B H) = (zyEl (zymr r c) B s.heap) ∧ zyΦli as (zyEl (zymr r c) B s.heap)) ∧ (2 ≤ 8 → zyKl (zyEl (zymr r c) B s.heap) (zyEl (zymr r c) B H)) ∧ (8 = 1 → ∃ u : Nat, (zyEl (zymr r c) B s.heap) 74 40 = some (.int (Int32.ofNat u)) ∧ ρ 2 = Int32.ofNat u) ∧ (8 = 8 → ρ 1 = 1 → (zyEl (zymr r c) B H) 74 36 = some (.int (Int32.ofNat 0)) ∧ (zyEl (zymr r c) B H) 74 40 = some (.int (Int32.ofNat 3))) ∧ (8 = 9 → ∃ w n n' : Nat, w ≤ 9 ∧ (zyEl (zymr r c) B H) 74 36 = some (.int (Int32.ofNat w)) ∧ (zyEl (zymr r c) B s.heap) 74 39 = some (.int (Int32.ofNat n)) ∧ (zyEl (zymr r c) B H) 74 39 = some (.int (Int32.ofNat n')) ∧ n' ≤ 901 ∧ (w = 0 → n < n')) := hI
      obtain ⟨hF, hB, hM⟩ := hXs
      have hEE : (zyEl (zymr r c) B H2) = (zyEl (zymr r c) B H) := zyfr0 hfr
      have ex := List.mem_singleton.mp hx
      subst ex
      obtain ⟨i0, i2, i1, i8, i9⟩ := hI
      have kl := i2 (by decide)
      have g8 := i8 rfl
      rw [← hEE] at kl g8
      obtain ⟨w, hw, ew⟩ := zc74r hT2 (k := 36) (lo := 2147483648) (hi := 2147483657) (by decide) rfl (by decide) (by decide)
      have b1 := zyXb hB 0 rfl
      have b1 : 2147483648 ≤ zB (ρ2 1) ∧ zB (ρ2 1) ≤ 2147483649 := b1
      obtain ⟨o1, o2⟩ := zyOn b1.1
      refine zyCa0 hRu hIH hAt hB htk (ix := 462) (ax := 5088) rfl rfl rfl hmetk ⟨rfl, rfl, rfl, rfl⟩ (by decide) [34359738369] rfl (by decide) rfl ⟨9, by decide⟩ [595] rfl rfl rfl rfl ?_ ?_
      · show zyΦtk [ρ2 1] _
        refine ⟨kl.2.1, zyN1 (ρ2 1), w, by rw [← o1], by omega, by omega, ew, fun q1 _ q3 => ?_⟩
        have z1 : ρ 1 = 1 := by
          rw [← hg 1 (by decide), o1, q1]
          rfl
        rw [(g8 z1).2] at q3
        have := zyOi (by omega) (by omega) (Value.int.inj (Option.some.inj q3))
        omega
      · intro E3 vo hT3 hΨ
        have hΨ : zyΨtk [ρ2 1] _ E3 vo := hΨ
        have k2 := zyKl_tr kl (zyKl_tk kl.1 hΨ)
        obtain ⟨ev, -, -, n1, n2, w1, w2, g, q1, q2, q3, q4, q5, q6, q7, q8, q9⟩ := hΨ
        obtain ⟨-, -, -, -, n0, n1', r1, r2, r3, r4⟩ := kl
        rw [q2] at r2
        have e := zyOi (by omega) (by omega) (Value.int.inj (Option.some.inj r2))
        exact ⟨ev, ⟨fun h => absurd (show 9 ≤ 1 from h) (by decide), fun _ => k2, fun h => absurd (show 9 = 1 from h) (by decide), fun h => absurd (show 9 = 8 from h) (by decide), fun _ => ⟨w2, n0, n2, q8, q7, r1, q3, q5, fun h => by have := (q9 h).1; omega⟩⟩, (show 10 - 9 < 10 - 8 by decide)⟩
    · cases hx
  · intro as E0 E E2 hT0 hΦ hlen i ρ hT hInv x hx ρ2 N2 B vo hXs hag hfr hT2 hvo
    rcases i with ⟨i, hi⟩
    have hi2 : i = 0 ∨ i = 1 ∨ i = 2 ∨ i = 3 ∨ i = 4 ∨ i = 5 ∨ i = 6 ∨ i = 7 ∨ i = 8 ∨ i = 9 := by omega
    rcases hi2 with rfl | rfl | rfl | rfl | rfl | rfl | rfl | rfl | rfl | rfl
    · cases hx
    · cases hx
    · cases hx
    · cases hx
    · cases hx
    · cases hx
    · cases hx
    · cases hx
    · cases hx
    · have hx : x ∈ [zxlin_jr0] := hx
      have hg : ∀ k, k < 1 → ρ2 k = ρ k := hag
      have hI := hInv
      have hI : (9 ≤ 1 → E = E0 ∧ zyΦli as E0) ∧ (2 ≤ 9 → zyKl E0 E) ∧ (9 = 1 → ∃ u : Nat, E0 74 40 = some (.int (Int32.ofNat u)) ∧ ρ 2 = Int32.ofNat u) ∧ (9 = 8 → ρ 1 = 1 → E 74 36 = some (.int (Int32.ofNat 0)) ∧ E 74 40 = some (.int (Int32.ofNat 3))) ∧ (9 = 9 → ∃ w n n' : Nat, w ≤ 9 ∧ E 74 36 = some (.int (Int32.ofNat w)) ∧ E0 74 39 = some (.int (Int32.ofNat n)) ∧ E 74 39 = some (.int (Int32.ofNat n')) ∧ n' ≤ 901 ∧ (w = 0 → n < n')) := hI
      obtain ⟨hF, hB, hM⟩ := hXs
      have hEE : E2 = E := zyfr0 hfr
      have ex := List.mem_singleton.mp hx
      subst ex
      obtain ⟨i0, i2, i1, i8, i9⟩ := hI
      have kl := i2 (by decide)
      have f9 := i9 rfl
      rw [← hEE] at kl f9
      exact ⟨zyvo_0 (show zyvo _ [] vo from hvo), kl, f9⟩
