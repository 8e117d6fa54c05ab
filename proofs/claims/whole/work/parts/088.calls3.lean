/-! calls that tell of WAYS over TUFTS -/
def cntN (p : Nat → Bool) : Nat → Nat
  | 0 => 0
  | n + 1 => cntN p n + (if p n = true then 1 else 0)
theorem cntN_le (p : Nat → Bool) (n : Nat) : cntN p n ≤ n := by
  induction n with
  | zero => exact Nat.le_refl _
  | succ n ih => unfold cntN; split <;> omega
theorem cntN_pos (p : Nat → Bool) (n : Nat) : 0 < cntN p n ↔ ∃ i, i < n ∧ p i = true := by
  induction n with
  | zero => exact ⟨fun h => absurd h (Nat.lt_irrefl 0), fun ⟨i, h, _⟩ => absurd h (by omega)⟩
  | succ n ih =>
    unfold cntN
    by_cases h : p n = true
    · rw [if_pos h]
      exact ⟨fun _ => ⟨n, by omega, h⟩, fun _ => by omega⟩
    · rw [if_neg h, Nat.add_zero, ih]
      constructor
      · rintro ⟨i, h1, h2⟩; exact ⟨i, by omega, h2⟩
      · rintro ⟨i, h1, h2⟩
        refine ⟨i, ?_, h2⟩
        by_cases e : i = n
        · subst e; exact absurd h2 h
        · omega
theorem cntN_c {p q : Nat → Bool} {n : Nat} (h : ∀ i, i < n → p i = q i) : cntN p n = cntN q n := by
  induction n with
  | zero => rfl
  | succ n ih => unfold cntN; rw [ih (fun i hi => h i (by omega)), h n (by omega)]
def lenN (S : Nat → Int32) (k : Nat) : Nat := if k < ix (S 3) then ix (S (177 + k)) else 0
def pasN (S : Nat → Int32) (k : Nat) (t : Int32) : Nat := cntN (fun i => decide (S (183 + 41 * k + i) = t)) (lenN S k)
def wovN (S : Nat → Int32) (t : Int32) (n : Nat) : Nat := fo (fun k v => if 0 < pasN S k t then v ||| 2 ^ k else v) n 0
theorem sh1 {k : Nat} (hk : k < 6) : (1 : Int32) <<< (nI k &&& 31) = nI (2 ^ k) := by
  have : k = 0 ∨ k = 1 ∨ k = 2 ∨ k = 3 ∨ k = 4 ∨ k = 5 := by omega
  rcases this with q | q | q | q | q | q <;> subst q <;> rfl
theorem wov_lt (S : Nat → Int32) (t : Int32) (n : Nat) (hn : n ≤ 6) : wovN S t n < 64 := by
  induction n with
  | zero => show 0 < 64; decide
  | succ n ih =>
    show (if 0 < pasN S n t then wovN S t n ||| 2 ^ n else wovN S t n) < 64
    split
    · exact Nat.or_lt_two_pow (n := 6) (ih (by omega)) (Nat.pow_lt_pow_right (by decide) (by omega))
    · exact ih (by omega)
section CX
variable {S : Nat → Int32} {w : Wd} {o h : Nat}
theorem WF.ways (hF : WF S) {k : Nat} (hk : k < ix (S 3)) : ∃ n, S (177 + k) = nI n ∧ 1 ≤ n ∧ n ≤ 41 ∧ lenN S k = n ∧ ∀ i, i < n → ∃ t, S (183 + 41 * k + i) = nI t ∧ t < 144 ∧ onR S t := by
  obtain ⟨n, en, hn1, hn2, hw⟩ := hF.2.2.2.2.2.2.2.2.2 k hk
  refine ⟨n, en, hn1, hn2, by unfold lenN; rw [if_pos hk, en, ix_nI (by omega)], fun i hi => ?_⟩
  obtain ⟨t, e, ht⟩ := hw i hi
  exact ⟨t, e, ht.lt hF, ht⟩
theorem WF.w6 (hF : WF S) {k : Nat} (hk : k < ix (S 3)) : k < 6 := by
  obtain ⟨Y, eY, hY⟩ := hF.2.2.1
  rw [eY, ix_nI (by omega)] at hk
  omega
theorem lenN_le (hF : WF S) (k : Nat) : lenN S k ≤ 41 := by
  by_cases hk : k < ix (S 3)
  · obtain ⟨n, -, -, h, e, -⟩ := hF.ways hk
    omega
  · unfold lenN; rw [if_neg hk]; omega
theorem len_at (hF : WF S) {k : Nat} (hk : k < 2147483648) : atK S 3 177 0 (nI k) = nI (lenN S k) := by
  obtain ⟨Y, eY, hY⟩ := hF.2.2.1
  unfold atK
  rw [isK_nI hk eY (by omega)]
  by_cases h : k < Y
  · obtain ⟨n, en, -, -, e, -⟩ := hF.ways (k := k) (by rw [eY, ix_nI (by omega)]; exact h)
    rw [decide_eq_true h, if_pos rfl, ix_nI hk, en, e]
  · unfold lenN
    rw [decide_eq_false h, if_neg (by decide), eY, ix_nI (by omega), if_neg h]; rfl
theorem wayS_in (hF : WF S) {k i : Nat} (hi : i < lenN S k) : wayS S (nI k) (nI i) = S (183 + 41 * k + i) := by
  have hk : k < ix (S 3) := by
    by_cases q : k < ix (S 3)
    · exact q
    · unfold lenN at hi; rw [if_neg q] at hi; omega
  have h6 := hF.w6 hk
  obtain ⟨Y, eY, hY⟩ := hF.2.2.1
  obtain ⟨n, en, hn1, hn2, e, -⟩ := hF.ways hk
  rw [e] at hi
  rw [eY, ix_nI (by omega)] at hk
  unfold wayS
  rw [if_pos ⟨by rw [isK_nI (by omega) eY (by omega)]; exact decide_eq_true hk, n0le (by omega), by rw [ix_nI (by omega), en]; exact nlt hi (by omega)⟩, ix_nI (by omega), ix_nI (by omega)]
theorem x_len (hF : WF S) (hR : HR S w h) {k : Nat} (hk : k < 2147483648) : sh_66 h (nI k) w = some (nI (lenN S k), w) := by
  rw [x_lengthOf hF hR, len_at hF hk]
theorem x_way_in (hF : WF S) (hR : HR S w h) {k i : Nat} (hi : i < lenN S k) : sh_65 h (nI k) (nI i) w = some (S (183 + 41 * k + i), w) := by
  rw [x_tuftOf hF hR, wayS_in hF hi]
theorem x_passes (hF : WF S) (hR : HR S w h) {k : Nat} (hk : k < 2147483648) (t : Int32) : sh_111 h (nI k) t w = some (nI (pasN S k t), w) := by
  unfold sh_111 pasN
  have hl := lenN_le hF k
  rw [cl_e (x_len hF hR hk)]
  refine itM_acc2 (fun j => nI (cntN (fun i => decide (S (183 + 41 * k + i) = t)) j)) (lenN S k) w (fun j hj => ?_) ?_ rfl (by omega)
  · show (if nI j < nI (lenN S k) then _ else _) = _
    rw [if_pos (nlt hj (by omega)), cl_e (x_way_in hF hR hj)]
    by_cases q : S (183 + 41 * k + j) = t
    · rw [if_pos q]
      simp only [lt_s_, nI_s, cntN, decide_eq_true q, if_true]
    · rw [if_neg q]
      simp only [lt_s_, nI_s, cntN, decide_eq_false q, Bool.false_eq_true, if_false, Nat.add_zero]
  · show (if nI (lenN S k) < nI (lenN S k) then _ else _) = _
    rw [if_neg (nnlt (Nat.le_refl _) (by omega))]
theorem x_waysOver (hF : WF S) (hR : HR S w h) (t : Int32) : sh_153 h t w = some (nI (wovN S t (ix (S 3))), w) := by
  obtain ⟨Y, eY, hY⟩ := hF.2.2.1
  unfold sh_153
  rw [eY, ix_nI (by omega)]
  refine itM_acc2 (fun j => nI (wovN S t j)) Y w (fun j hj => ?_) ?_ rfl (by omega)
  · show (if nI j < wI w h 4 then _ else _) = _
    rw [hR.2.2.2.1, eY, if_pos (nlt hj (by omega)), if_pos (jl (n := 6) (by omega) (by decide)), cl_e (x_passes hF hR (by omega) t)]
    have hp := cntN_le (fun i => decide (S (183 + 41 * j + i) = t)) (lenN S j)
    have hl := lenN_le hF j
    have e : wovN S t (j + 1) = if 0 < pasN S j t then wovN S t j ||| 2 ^ j else wovN S t j := rfl
    by_cases q : 0 < pasN S j t
    · rw [if_pos q] at e
      rw [if_pos (jp q (by unfold pasN; omega)), sh1 (by omega), n_or]
      simp only [lt_s_, nI_s, e]
    · rw [if_neg q] at e
      rw [if_neg (by rw [show pasN S j t = 0 by omega]; decide)]
      simp only [lt_s_, nI_s, e]
  · show (if nI Y < wI w h 4 then _ else _) = _
    rw [hR.2.2.2.1, eY, if_neg (nnlt (Nat.le_refl _) (by omega))]
theorem or_twice (a b : Nat) : (a ||| b) ||| b = a ||| b := by rw [Nat.or_assoc, Nat.or_self]
theorem y_waysOver (hF : WF S) (hS : wI w (o + 2) = S) (t : Int32) : sh_264 o t w = some (nI (wovN S t (ix (S 3))), w) := by
  obtain ⟨Y, eY, hY⟩ := hF.2.2.1
  unfold sh_264
  rw [eY, ix_nI (by omega)]
  refine itM_acc2 (fun j => nI (wovN S t j)) Y w (fun j hj => ?_) ?_ rfl (by omega)
  · obtain ⟨n, en, hn1, hn2, e, -⟩ := hF.ways (k := j) (by rw [eY, ix_nI (by omega)]; exact hj)
    show gd (ib 3 10265) _ = _
    rw [gd_l (by decide) (by decide), hS, ix_3, eY, if_pos (nlt hj (by omega))]
    have hc : ∀ i, (if 0 < cntN (fun i => decide (S (183 + 41 * j + i) = t)) i then wovN S t j ||| 2 ^ j else wovN S t j) = (if ∃ a, a < i ∧ decide (S (183 + 41 * j + a) = t) = true then wovN S t j ||| 2 ^ j else wovN S t j) := fun i => by
      by_cases q : 0 < cntN (fun i => decide (S (183 + 41 * j + i) = t)) i
      · rw [if_pos q, if_pos ((cntN_pos _ _).mp q)]
      · rw [if_neg q, if_neg (fun z => q ((cntN_pos _ _).mpr z))]
    refine itM_acc2 (fun i => nI (if 0 < cntN (fun i => decide (S (183 + 41 * j + i) = t)) i then wovN S t j ||| 2 ^ j else wovN S t j)) n w (fun i hi => ?_) ?_ rfl (by omega)
    · show gd (ib (177 + nI j) 10265) _ = _
      rw [l177, nI_p, gd_nI (by omega) (by decide), ix_nI (by omega), hS, en, if_pos (nlt hi (by omega)), l183, l41, nI_m, nI_p, nI_p, gd_nI (by omega) (by decide), ix_nI (by omega)]
      have ec : cntN (fun i => decide (S (183 + 41 * j + i) = t)) (i + 1) = cntN (fun i => decide (S (183 + 41 * j + i) = t)) i + (if decide (S (183 + 41 * j + i) = t) = true then 1 else 0) := rfl
      by_cases q : S (183 + 41 * j + i) = t
      · rw [if_pos (decide_eq_true q)] at ec
        rw [if_pos q, sh1 (by omega), n_or]
        simp only [lt_s_, nI_s, ec, if_pos (Nat.succ_pos _)]
        split
        · rw [or_twice]
        · rfl
      · rw [if_neg (by rw [decide_eq_false q]; decide)] at ec
        rw [if_neg q]
        simp only [lt_s_, nI_s, ec, Nat.add_zero]
    · show gd (ib (177 + nI j) 10265) _ = _
      rw [l177, nI_p, gd_nI (by omega) (by decide), ix_nI (by omega), hS, en, if_neg (nnlt (Nat.le_refl _) (by omega))]
      have e2 : wovN S t (j + 1) = if 0 < cntN (fun i => decide (S (183 + 41 * j + i) = t)) n then wovN S t j ||| 2 ^ j else wovN S t j := by
        show (if 0 < pasN S j t then _ else _) = _
        unfold pasN
        rw [e]
        rfl
      simp only [lt_s_, nI_s, e2]
  · show gd (ib 3 10265) _ = _
    rw [gd_l (by decide) (by decide), hS, ix_3, eY, if_neg (nnlt (Nat.le_refl _) (by omega))]
def waysS (S : Nat → Int32) (t : Int32) : Int32 := if isT S t = true then nI (wovN S t (ix (S 3))) else -1
theorem x_ways (h : XS S w) (t : Int32) : sh_154 0 t w = some (waysS S t, w) := by
  obtain ⟨hF, hW, hr, a, ha, hR⟩ := h
  unfold sh_154 waysS
  rw [der_e ha, cl_e (x_onRug hF hR t)]
  by_cases h : isT S t = true
  · rw [if_pos h, if_pos h, der_e ha, cl_e (x_waysOver hF hR t)]
  · rw [if_neg h, if_neg h]
theorem y_ways (hF : WF S) (hS : wI w 168 = S) (t : Int32) : sh_266 166 t w = some (waysS S t, sI w 166 0 0) := by
  unfold sh_266 waysS
  rw [stI_s, cl_e (y_isTuft (m0 hS) t)]
  by_cases h : isT S t = true
  · rw [if_pos h, if_pos h, cl_e (y_waysOver hF (m0 hS) t)]
  · rw [if_neg h, if_neg h]
/-- bits of a small number -/
def pcN (v : Nat) : Nat := v % 2 + v / 2 % 2 + v / 4 % 2 + v / 8 % 2 + v / 16 % 2 + v / 32 % 2
theorem x_bitCount {v : Nat} (hv : v < 64) : sh_114 (nI v) w = some (nI (pcN v), w) := by
  have key : ∀ v, v < 64 → (let a := nI v - ((zush (nI v) 1) &&& 1431655765); let b := (a &&& 858993459) + ((zush a 2) &&& 858993459); let c := (b + (zush b 4)) &&& 252645135; let d := c + (zush c 8); let e := d + (zush d 16); e &&& 63) = nI (pcN v) := by decide +kernel
  show some (_, w) = _
  exact congrArg (fun x => some (x, w)) (key v hv)
theorem y_bits {v : Nat} (hv : v < 64) : sh_265 (nI v) w = some (nI (pcN v), w) := by
  have k1 : ∀ v, v < 64 → 0 < v → v &&& (v - 1) < v ∧ pcN v = pcN (v &&& (v - 1)) + 1 := by decide +kernel
  have k2 : ∀ v, v < 64 → pcN v ≤ 6 := by decide +kernel
  unfold sh_265
  have h := tp_it (body := fun (s8 : Int32 × Int32) (w4 : Wd) => match s8 with | (v1_1, v2_2) => if v2_2 = 0 then (some (.inr (v1_1), w4)) else (lt (v1_1 + 1 : Int32) (fun v1_6 => lt (v2_2 &&& (v2_2 - 1) : Int32) (fun v2_7 => some (.inl (v1_6, v2_7), w4))))) (Q := fun r w' => r = nI (pcN v) ∧ w' = w) (w := w) (s := (0, nI v)) (fun j s w' => ∃ u, s = (nI j, nI u) ∧ u < 64 ∧ j + pcN u = pcN v ∧ w' = w) 7 (by decide) ⟨v, rfl, hv, by omega, rfl⟩ (fun j s w' hI => by
    obtain ⟨u, e, hu, hj, e2⟩ := hI
    subst e; subst e2
    show tp (if nI u = 0 then _ else _) _
    have := k2 v hv
    by_cases h0 : u = 0
    · subst h0
      rw [if_pos (show nI 0 = 0 from rfl)]
      exact tp_out ⟨by rw [← hj]; rfl, rfl⟩
    · rw [if_neg (nI_ne0 (by omega) (by omega)), l1, pk_sub (by omega), n_and]
      obtain ⟨h1, h2⟩ := k1 u hu (by omega)
      exact tp_on ⟨by omega, u &&& (u - 1), by rw [nI_p], by omega, by omega, rfl⟩)
  obtain ⟨r, w', e, h1, h2⟩ := h
  subst h1; subst h2
  exact e
theorem x_spot (h : XS S w) : sh_152 0 w = some ((bestS (fun t => nI (pcN (wovN S (nI t) (ix (S 3))))) 144 (-1, 0)).1, w) := by
  obtain ⟨hF, hW, hr, a, ha, hR⟩ := h
  obtain ⟨Y, eY, hY⟩ := hF.2.2.1
  have hv : ∀ t, wovN S t (ix (S 3)) < 64 := fun t => wov_lt S t _ (by rw [eY, ix_nI (by omega)]; exact hY)
  unfold sh_152
  refine itM_seq (fun j => ((bestS (fun t => nI (pcN (wovN S (nI t) (ix (S 3))))) j (-1, 0)).1, (bestS (fun t => nI (pcN (wovN S (nI t) (ix (S 3))))) j (-1, 0)).2, nI j)) (fun _ => w) 144 (fun j hj => ?_) ?_ rfl rfl (by decide)
  · show (if nI j < 144 then _ else _) = _
    rw [if_pos (jl hj (by decide)), der_e ha, cl_e (x_waysOver hF hR (nI j)), cl_e (x_bitCount (hv _))]
    have e : bestS (fun t => nI (pcN (wovN S (nI t) (ix (S 3))))) (j + 1) (-1, 0) = if (bestS (fun t => nI (pcN (wovN S (nI t) (ix (S 3))))) j (-1, 0)).2 < nI (pcN (wovN S (nI j) (ix (S 3)))) then (nI j, nI (pcN (wovN S (nI j) (ix (S 3))))) else bestS (fun t => nI (pcN (wovN S (nI t) (ix (S 3))))) j (-1, 0) := rfl
    by_cases h : (bestS (fun t => nI (pcN (wovN S (nI t) (ix (S 3))))) j (-1, 0)).2 < nI (pcN (wovN S (nI j) (ix (S 3))))
    · rw [if_pos h] at e ⊢
      simp only [lt_s_, nI_s, e]
    · rw [if_neg h] at e ⊢
      simp only [lt_s_, nI_s, e]
  · show (if nI 144 < 144 then _ else _) = _
    rw [if_neg (by decide)]
theorem y_spot (hF : WF S) (hS : wI w 168 = S) : sh_263 166 w = some ((bestS (fun t => nI (pcN (wovN S (nI t) (ix (S 3))))) 144 (-1, 0)).1, sI w 166 0 0) := by
  obtain ⟨Y, eY, hY⟩ := hF.2.2.1
  have hv : ∀ t, wovN S t (ix (S 3)) < 64 := fun t => wov_lt S t _ (by rw [eY, ix_nI (by omega)]; exact hY)
  unfold sh_263
  rw [stI_s]
  refine itM_seq (fun j => ((bestS (fun t => nI (pcN (wovN S (nI t) (ix (S 3))))) j (-1, 0)).1, (bestS (fun t => nI (pcN (wovN S (nI t) (ix (S 3))))) j (-1, 0)).2, nI j)) (fun _ => sI w 166 0 0) 144 (fun j hj => ?_) ?_ rfl rfl (by decide)
  · show (if nI j < 144 then _ else _) = _
    rw [if_pos (jl hj (by decide)), cl_e (y_waysOver hF (m0 hS) (nI j)), cl_e (y_bits (hv _))]
    have e : bestS (fun t => nI (pcN (wovN S (nI t) (ix (S 3))))) (j + 1) (-1, 0) = if (bestS (fun t => nI (pcN (wovN S (nI t) (ix (S 3))))) j (-1, 0)).2 < nI (pcN (wovN S (nI j) (ix (S 3)))) then (nI j, nI (pcN (wovN S (nI j) (ix (S 3))))) else bestS (fun t => nI (pcN (wovN S (nI t) (ix (S 3))))) j (-1, 0) := rfl
    by_cases h : (bestS (fun t => nI (pcN (wovN S (nI t) (ix (S 3))))) j (-1, 0)).2 < nI (pcN (wovN S (nI j) (ix (S 3))))
    · rw [if_neg (Int32.not_le.mpr h)]
      rw [if_pos h] at e
      simp only [lt_s_, nI_s, e]
    · rw [if_pos (Int32.not_lt.mp h)]
      rw [if_neg h] at e
      simp only [lt_s_, nI_s, e]
  · show (if nI 144 < 144 then _ else _) = _
    rw [if_neg (by decide)]
/-- two of the bits -/
def twoB (v a b : Nat) : Bool := Nat.testBit v a && Nat.testBit v b
def bothS (S : Nat → Int32) (p q : Int32) : Int32 := if isK S 3 p = true ∧ isK S 3 q = true then sm 144 (fun t => bi (twoB (wovN S (nI t) (ix (S 3))) (ix p) (ix q))) else -1
theorem two_x : ∀ v, v < 64 → ∀ a, a < 6 → ∀ b, b < 6 → decide (nI v &&& (nI (2 ^ a) ||| nI (2 ^ b)) = nI (2 ^ a) ||| nI (2 ^ b)) = twoB v a b := by decide +kernel
theorem one_y : ∀ v, v < 64 → ∀ a, a < 6 → decide ((nI v >>> (nI a &&& 31)) &&& 1 = 1) = Nat.testBit v a := by decide +kernel
theorem x_both (h : XS S w) (p q : Int32) : sh_155 0 p q w = some (bothS S p q, w) := by
  obtain ⟨hF, hW, hr, a, ha, hR⟩ := h
  obtain ⟨Y, eY, hY⟩ := hF.2.2.1
  have hv : ∀ t, wovN S t (ix (S 3)) < 64 := fun t => wov_lt S t _ (by rw [eY, ix_nI (by omega)]; exact hY)
  unfold sh_155 bothS
  rw [der_e ha, cl_e (x_isWay hF hR p)]
  by_cases hp : isK S 3 p = true
  · rw [if_pos hp, der_e ha, cl_e (x_isWay hF hR q)]
    by_cases hq : isK S 3 q = true
    · rw [if_pos hq, if_pos ⟨hp, hq⟩]
      obtain ⟨k, e, hk, hkp⟩ := isK_t hp
      obtain ⟨l, e2, hl, hlp⟩ := isK_t hq
      have k6 := hF.w6 hkp
      have l6 := hF.w6 hlp
      subst e; subst e2
      rw [lt_s_, sh1 k6, sh1 l6, ix_nI hk, ix_nI hl]
      refine itM_acc2 (fun j => sm j (fun t => bi (twoB (wovN S (nI t) (ix (S 3))) k l))) 144 w (fun j hj => ?_) ?_ rfl (by decide)
      · show (if nI j < 144 then _ else _) = _
        rw [if_pos (jl hj (by decide)), der_e ha, cl_e (x_waysOver hF hR (nI j))]
        have e := two_x _ (hv (nI j)) k k6 l l6
        by_cases z : nI (wovN S (nI j) (ix (S 3))) &&& (nI (2 ^ k) ||| nI (2 ^ l)) = nI (2 ^ k) ||| nI (2 ^ l)
        · rw [decide_eq_true z] at e
          rw [if_pos z]
          simp only [lt_s_, nI_s, sm, ← e, bi]
        · rw [decide_eq_false z] at e
          rw [if_neg z]
          simp only [lt_s_, nI_s, sm, ← e, bi, Int32.add_zero]
      · show (if nI 144 < 144 then _ else _) = _
        rw [if_neg (by decide)]
    · rw [if_neg hq, if_neg (fun z => hq z.2)]
  · rw [if_neg hp, if_neg (fun z => hp z.1)]
theorem y_bitOf {v a : Nat} (hv : v < 64) (ha : a < 6) : sh_268 (nI v) (nI a) w = some (Nat.testBit v a, w) := by
  unfold sh_268
  rw [lt_s_, ite_b, one_y v hv a ha]
theorem y_both (hF : WF S) (hS : wI w 168 = S) (p q : Int32) : sh_267 166 p q w = some (bothS S p q, sI w 166 0 0) := by
  obtain ⟨Y, eY, hY⟩ := hF.2.2.1
  have hv : ∀ t, wovN S t (ix (S 3)) < 64 := fun t => wov_lt S t _ (by rw [eY, ix_nI (by omega)]; exact hY)
  unfold sh_267 bothS
  rw [stI_s, cl_e (y_isWay hF (m0 hS) p)]
  by_cases hp : isK S 3 p = true
  · rw [if_pos hp, cl_e (y_isWay hF (m0 hS) q)]
    by_cases hq : isK S 3 q = true
    · rw [if_pos hq, if_pos ⟨hp, hq⟩]
      obtain ⟨k, e, hk, hkp⟩ := isK_t hp
      obtain ⟨l, e2, hl, hlp⟩ := isK_t hq
      have k6 := hF.w6 hkp
      have l6 := hF.w6 hlp
      subst e; subst e2
      rw [ix_nI hk, ix_nI hl]
      refine itM_acc2 (fun j => sm j (fun t => bi (twoB (wovN S (nI t) (ix (S 3))) k l))) 144 _ (fun j hj => ?_) ?_ rfl (by decide)
      · show (if nI j < 144 then _ else _) = _
        rw [if_pos (jl hj (by decide)), cl_e (y_waysOver hF (m0 hS) (nI j)), cl_e (y_bitOf (hv _) k6)]
        have e : twoB (wovN S (nI j) (ix (S 3))) k l = (Nat.testBit (wovN S (nI j) (ix (S 3))) k && Nat.testBit (wovN S (nI j) (ix (S 3))) l) := rfl
        cases z1 : Nat.testBit (wovN S (nI j) (ix (S 3))) k with
        | true =>
          rw [if_pos rfl, cl_e (y_waysOver hF (m0 hS) (nI j)), cl_e (y_bitOf (hv _) l6)]
          rw [z1] at e
          cases z2 : Nat.testBit (wovN S (nI j) (ix (S 3))) l with
          | true =>
            rw [z2] at e
            simp only [if_true, lt_s_, nI_s, sm, e, bi, Bool.and_self]
          | false =>
            rw [z2] at e
            simp only [Bool.false_eq_true, if_false, lt_s_, nI_s, sm, e, bi, Bool.and_false, Int32.add_zero]
        | false =>
          rw [z1] at e
          simp only [Bool.false_eq_true, if_false, lt_s_, nI_s, sm, e, bi, Bool.false_and, Int32.add_zero]
      · show (if nI 144 < 144 then _ else _) = _
        rw [if_neg (by decide)]
    · rw [if_neg hq, if_neg (fun z => hq z.2)]
  · rw [if_neg hp, if_neg (fun z => hp z.1)]
end CX
