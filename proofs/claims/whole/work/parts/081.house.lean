/-! A HOUSE as a row S of ints, laid as the reference lays it: 0 W, 1 H, 2 people, 3 WAYS, 4 walls, 5 doors, 6 fade, 7 + k WEIGHT, 13 + k SOLE, 19 + k PACE, 25 + t wall, 169 + k door, 177 + k long, 183 + 41 k + i TUFT i of WAY k -/
def onR (S : Nat → Int32) (t : Nat) : Prop := t % 12 < ix (S 0) ∧ t / 12 < ix (S 1)
def WF (S : Nat → Int32) : Prop :=
  (∃ a b, S 0 = nI a ∧ S 1 = nI b ∧ a ≤ 12 ∧ b ≤ 12) ∧ (∃ a, S 2 = nI a ∧ a ≤ 6) ∧ (∃ a, S 3 = nI a ∧ a ≤ 6) ∧ (∃ a, S 4 = nI a ∧ a ≤ 30) ∧ (∃ a, S 5 = nI a ∧ a ≤ 8) ∧ (∃ a, S 6 = nI a ∧ 1 ≤ a ∧ a ≤ 9) ∧
  (∀ k, k < ix (S 2) → (∃ a, S (7 + k) = nI a ∧ 1 ≤ a ∧ a ≤ 9) ∧ (∃ a, S (13 + k) = nI a ∧ a ≤ 9) ∧ ∃ a, S (19 + k) = nI a ∧ 1 ≤ a ∧ a ≤ 9) ∧
  (∀ t, t < 144 → S (25 + t) = 0 ∨ S (25 + t) = 1) ∧
  (∀ k, k < ix (S 5) → ∃ t, S (169 + k) = nI t ∧ onR S t) ∧
  (∀ k, k < ix (S 3) → ∃ n, S (177 + k) = nI n ∧ 1 ≤ n ∧ n ≤ 41 ∧ ∀ i, i < n → ∃ t, S (183 + 41 * k + i) = nI t ∧ onR S t)
/-- the object o holds the HOUSE S -/
def HR (S : Nat → Int32) (w : Wd) (o : Nat) : Prop :=
  wI w o 0 = S 0 ∧ wI w o 1 = S 1 ∧ wI w o 3 = S 2 ∧ wI w o 4 = S 3 ∧ wI w o 5 = S 4 ∧ wI w o 6 = S 5 ∧ (if wI w o 2 = 0 then 9 else wI w o 2) = S 6 ∧
  (∀ k, k < ix (S 2) → wI w (o + 1) k = S (7 + k) ∧ wI w (o + 2) k = S (13 + k) ∧ wI w (o + 3) k = S (19 + k)) ∧
  (∀ t, t < 144 → wI w (o + 8) t = S (25 + t)) ∧ (∀ k, k < ix (S 5) → wI w (o + 9) k = S (169 + k)) ∧
  (∀ k, k < ix (S 3) → wI w (o + 6) k = S (177 + k) ∧ ∀ i, i < ix (S (177 + k)) → wI w (o + 7) (41 * k + i) = S (183 + 41 * k + i))
theorem onR.lt {S : Nat → Int32} (h : WF S) {t : Nat} (ht : onR S t) : t < 144 := by
  obtain ⟨a, b, e0, e1, ha, hb⟩ := h.1
  obtain ⟨h1, h2⟩ := ht
  rw [e0, ix_nI (by omega)] at h1
  rw [e1, ix_nI (by omega)] at h2
  omega
/-- a place in the row of its kind -/
def isK (S : Nat → Int32) (j : Nat) (p : Int32) : Bool := decide (0 ≤ p) && decide (p < S j)
theorem isK_t {S : Nat → Int32} {j : Nat} {p : Int32} (h : isK S j p = true) : ∃ k, p = nI k ∧ k < 2147483648 ∧ k < ix (S j) := by
  unfold isK at h
  rw [Bool.and_eq_true, decide_eq_true_eq, decide_eq_true_eq] at h
  obtain ⟨k, hk, e⟩ := nI_ex h.1
  refine ⟨k, e, hk, ?_⟩
  have h2 := (i_lt _ _).mp h.2
  rw [e, i_nI hk] at h2
  show k < (S j).toInt.toNat
  omega
theorem isK_nI {S : Nat → Int32} {j k a : Nat} (hk : k < 2147483648) (ha : S j = nI a) (h : a < 2147483648) : isK S j (nI k) = decide (k < a) := by
  unfold isK
  rw [ha, decide_eq_true (n0le hk), Bool.true_and]
  by_cases q : k < a
  · rw [decide_eq_true q, decide_eq_true (nlt q h)]
  · rw [decide_eq_false q, decide_eq_false (nnlt (by omega) hk)]
theorem ite_b (c : Prop) [Decidable c] : (if c then true else false) = decide c := by by_cases h : c <;> simp [h]
theorem ite3 {a b c : Prop} [Decidable a] [Decidable b] [Decidable c] : (if a then (if b then (if c then true else false) else false) else false) = (decide a && (decide b && decide c)) := by
  by_cases h1 : a <;> by_cases h2 : b <;> by_cases h3 : c <;> simp [h1, h2, h3]
section HX
variable {S : Nat → Int32} {w : Wd} {o : Nat}
theorem x_isPerson (hF : WF S) (hR : HR S w o) (p : Int32) : sh_69 o p w = some (isK S 2 p, w) := by
  obtain ⟨a, ea, ha⟩ := hF.2.1
  unfold sh_69 lt
  dsimp only
  rw [ite3, hR.2.2.1]
  congr 2
  unfold isK
  by_cases h0 : 0 ≤ p
  · obtain ⟨k, hk, e⟩ := nI_ex h0
    subst e
    rw [ea]
    by_cases q : k < a
    · have hl : nI k < (6 : Int32) := (nlt (by omega) (by decide) : nI k < nI 6)
      rw [decide_eq_true (nlt q (by omega)), decide_eq_true hl]; rfl
    · rw [decide_eq_false (nnlt (by omega) hk)]; rfl
  · rw [decide_eq_false h0]; rfl
theorem x_isWay (hF : WF S) (hR : HR S w o) (p : Int32) : sh_67 o p w = some (isK S 3 p, w) := by
  obtain ⟨a, ea, ha⟩ := hF.2.2.1
  unfold sh_67 lt
  dsimp only
  rw [ite3, hR.2.2.2.1]
  congr 2
  unfold isK
  by_cases h0 : 0 ≤ p
  · obtain ⟨k, hk, e⟩ := nI_ex h0
    subst e
    rw [ea]
    by_cases q : k < a
    · have hl : nI k < (6 : Int32) := (nlt (by omega) (by decide) : nI k < nI 6)
      rw [decide_eq_true (nlt q (by omega)), decide_eq_true hl]; rfl
    · rw [decide_eq_false (nnlt (by omega) hk)]; rfl
  · rw [decide_eq_false h0]; rfl
theorem x_isDoorNumber (hF : WF S) (hR : HR S w o) (p : Int32) : sh_139 o p w = some (isK S 5 p, w) := by
  obtain ⟨a, ea, ha⟩ := hF.2.2.2.2.1
  unfold sh_139 lt
  dsimp only
  rw [ite3, hR.2.2.2.2.2.1]
  congr 2
  unfold isK
  by_cases h0 : 0 ≤ p
  · obtain ⟨k, hk, e⟩ := nI_ex h0
    subst e
    rw [ea]
    by_cases q : k < a
    · have hl : nI k < (8 : Int32) := (nlt (by omega) (by decide) : nI k < nI 8)
      rw [decide_eq_true (nlt q (by omega)), decide_eq_true hl]; rfl
    · rw [decide_eq_false (nnlt (by omega) hk)]; rfl
  · rw [decide_eq_false h0]; rfl
/-- what a kind has at a place, else d -/
def atK (S : Nat → Int32) (j q : Nat) (d p : Int32) : Int32 := if isK S j p = true then S (q + ix p) else d
theorem x_weightOf (hF : WF S) (hR : HR S w o) (p : Int32) : sh_89 o p w = some (atK S 2 7 0 p, w) := by
  unfold sh_89 atK
  rw [x_isPerson hF hR]
  show (if isK S 2 p = true then _ else _) = _
  by_cases h : isK S 2 p = true
  · rw [if_pos h, if_pos h]
    obtain ⟨k, e, hk, hkp⟩ := isK_t h
    obtain ⟨a, ea, ha⟩ := hF.2.1
    rw [ea, ix_nI (by omega)] at hkp
    subst e
    rw [gd_nI (by omega) (by decide), ix_nI hk, (hR.2.2.2.2.2.2.2.1 k (by rw [ea, ix_nI (by omega)]; exact hkp)).1]
  · rw [if_neg h, if_neg h]
theorem x_soleOf (hF : WF S) (hR : HR S w o) (p : Int32) : sh_73 o p w = some (atK S 2 13 (-1) p, w) := by
  unfold sh_73 atK
  rw [x_isPerson hF hR]
  show (if isK S 2 p = true then _ else _) = _
  by_cases h : isK S 2 p = true
  · rw [if_pos h, if_pos h]
    obtain ⟨k, e, hk, hkp⟩ := isK_t h
    obtain ⟨a, ea, ha⟩ := hF.2.1
    rw [ea, ix_nI (by omega)] at hkp
    subst e
    rw [gd_nI (by omega) (by decide), ix_nI hk, (hR.2.2.2.2.2.2.2.1 k (by rw [ea, ix_nI (by omega)]; exact hkp)).2.1]
  · rw [if_neg h, if_neg h]
theorem x_paceOf (hF : WF S) (hR : HR S w o) (p : Int32) : sh_134 o p w = some (atK S 2 19 0 p, w) := by
  unfold sh_134 atK
  rw [x_isPerson hF hR]
  show (if isK S 2 p = true then _ else _) = _
  by_cases h : isK S 2 p = true
  · rw [if_pos h, if_pos h]
    obtain ⟨k, e, hk, hkp⟩ := isK_t h
    obtain ⟨a, ea, ha⟩ := hF.2.1
    rw [ea, ix_nI (by omega)] at hkp
    subst e
    rw [gd_nI (by omega) (by decide), ix_nI hk, (hR.2.2.2.2.2.2.2.1 k (by rw [ea, ix_nI (by omega)]; exact hkp)).2.2]
  · rw [if_neg h, if_neg h]
theorem x_lengthOf (hF : WF S) (hR : HR S w o) (p : Int32) : sh_66 o p w = some (atK S 3 177 0 p, w) := by
  unfold sh_66 atK
  rw [x_isWay hF hR]
  show (if isK S 3 p = true then _ else _) = _
  by_cases h : isK S 3 p = true
  · rw [if_pos h, if_pos h]
    obtain ⟨k, e, hk, hkp⟩ := isK_t h
    obtain ⟨a, ea, ha⟩ := hF.2.2.1
    rw [ea, ix_nI (by omega)] at hkp
    subst e
    rw [gd_nI (by omega) (by decide), ix_nI hk, (hR.2.2.2.2.2.2.2.2.2.2 k (by rw [ea, ix_nI (by omega)]; exact hkp)).1]
  · rw [if_neg h, if_neg h]
theorem x_doorTuft (hF : WF S) (hR : HR S w o) (p : Int32) : sh_140 o p w = some (atK S 5 169 (-1) p, w) := by
  unfold sh_140 atK
  rw [x_isDoorNumber hF hR]
  show (if isK S 5 p = true then _ else _) = _
  by_cases h : isK S 5 p = true
  · rw [if_pos h, if_pos h]
    obtain ⟨k, e, hk, hkp⟩ := isK_t h
    obtain ⟨a, ea, ha⟩ := hF.2.2.2.2.1
    rw [ea, ix_nI (by omega)] at hkp
    subst e
    rw [gd_nI (by omega) (by decide), ix_nI hk, hR.2.2.2.2.2.2.2.2.2.1 k (by rw [ea, ix_nI (by omega)]; exact hkp)]
  · rw [if_neg h, if_neg h]
theorem x_fadeDays (hR : HR S w o) : sh_82 o w = some (S 6, w) := by
  have h := hR.2.2.2.2.2.2.1
  unfold sh_82
  unfold lt
  try dsimp only
  rw [h]
/-- the TUFT i of a WAY -/
def wayS (S : Nat → Int32) (p i : Int32) : Int32 := if isK S 3 p = true ∧ 0 ≤ i ∧ i < S (177 + ix p) then S (183 + 41 * ix p + ix i) else -1
theorem x_tuftOf (hF : WF S) (hR : HR S w o) (p i : Int32) : sh_65 o p i w = some (wayS S p i, w) := by
  unfold sh_65 wayS
  rw [x_lengthOf hF hR]
  show (if 0 ≤ i then (if i < atK S 3 177 0 p then _ else _) else _) = _
  by_cases h0 : 0 ≤ i
  · rw [if_pos h0]
    obtain ⟨j, hj, ej⟩ := nI_ex h0
    by_cases h : isK S 3 p = true
    · obtain ⟨k, e, hk, hkp⟩ := isK_t h
      obtain ⟨a, ea, ha⟩ := hF.2.2.1
      obtain ⟨n, en, hn1, hn2, hway⟩ := hF.2.2.2.2.2.2.2.2.2 k hkp
      have hx := hR.2.2.2.2.2.2.2.2.2.2 k hkp
      have hk6 : k < 6 := by rw [ea, ix_nI (by omega)] at hkp; omega
      have eK : atK S 3 177 0 p = nI n := by unfold atK; rw [if_pos h, e, ix_nI hk, en]
      rw [eK]
      have eI : S (177 + ix p) = nI n := by rw [e, ix_nI hk, en]
      by_cases hl : i < nI n
      · rw [if_pos hl, if_pos (show isK S 3 p = true ∧ 0 ≤ i ∧ i < S (177 + ix p) from ⟨h, h0, by rw [eI]; exact hl⟩)]
        have hjn : j < n := by
          rw [ej, i_lt, i_nI hj, i_nI (by omega)] at hl
          omega
        subst e; subst ej
        have h41 : nI j < (41 : Int32) := (nlt (by omega) (by decide) : nI j < nI 41)
        rw [if_pos h41, show nI k * 41 + nI j = nI (41 * k + j) by
          rw [show (41 : Int32) = nI 41 from rfl, nI_m, nI_p, Nat.mul_comm], gd_nI (by omega) (by decide), ix_nI (by omega), ix_nI hk, ix_nI hj, hx.2 j (by rw [en, ix_nI (by omega)]; exact hjn)]
      · rw [if_neg hl, if_neg (fun q => hl (by rw [← eI]; exact q.2.2))]
    · have eK : atK S 3 177 0 p = nI 0 := by unfold atK; rw [if_neg h]; rfl
      rw [eK, if_neg (by rw [ej]; exact nnlt (by omega) hj), if_neg (fun q => h q.1)]
  · rw [if_neg h0, if_neg (fun q => h0 q.2.1)]
/-- a TUFT of the rug -/
def isT (S : Nat → Int32) (t : Int32) : Bool := decide (0 ≤ t) && (decide (zrem t 12 < S 0) && decide (t / 12 < S 1))
theorem nI_div {a d : Nat} (ha : a < 2147483648) (h0 : 0 < d) (hd : d < 2147483648) : nI a / nI d = nI (a / d) := pk_div ha h0 hd
theorem nI_rem {a d : Nat} (ha : a < 2147483648) (h0 : 0 < d) (hd : d < 2147483648) : zrem (nI a) (nI d) = nI (a % d) := pk_rem ha h0 hd
theorem isT_t {t : Int32} (hF : WF S) (h : isT S t = true) : ∃ k, t = nI k ∧ k < 144 ∧ onR S k := by
  obtain ⟨a, b, e0, e1, ha, hb⟩ := hF.1
  unfold isT at h
  rw [Bool.and_eq_true, Bool.and_eq_true, decide_eq_true_eq, decide_eq_true_eq, decide_eq_true_eq] at h
  obtain ⟨k, hk, e⟩ := nI_ex h.1
  subst e
  obtain ⟨-, h1, h2⟩ := h
  rw [show (12 : Int32) = nI 12 from rfl, nI_rem hk (by decide) (by decide), e0, i_lt, i_nI (by omega), i_nI (by omega)] at h1
  rw [show (12 : Int32) = nI 12 from rfl, nI_div hk (by decide) (by decide), e1, i_lt, i_nI (by omega), i_nI (by omega)] at h2
  have ho : onR S k := ⟨by rw [e0, ix_nI (by omega)]; omega, by rw [e1, ix_nI (by omega)]; omega⟩
  exact ⟨k, rfl, ho.lt hF, ho⟩
theorem isT_nI (hF : WF S) {k : Nat} (hk : k < 2147483648) : isT S (nI k) = decide (k % 12 < ix (S 0) ∧ k / 12 < ix (S 1)) := by
  obtain ⟨a, b, e0, e1, ha, hb⟩ := hF.1
  unfold isT
  rw [decide_eq_true (n0le hk), Bool.true_and, show (12 : Int32) = nI 12 from rfl, nI_rem hk (by decide) (by decide), nI_div hk (by decide) (by decide), e0, e1, ix_nI (by omega), ix_nI (by omega)]
  by_cases h1 : k % 12 < a
  · rw [decide_eq_true (nlt h1 (by omega)), Bool.true_and]
    by_cases h2 : k / 12 < b
    · rw [decide_eq_true (nlt h2 (by omega)), decide_eq_true ⟨h1, h2⟩]
    · rw [decide_eq_false (nnlt (by omega) (by omega)), decide_eq_false (fun q => h2 q.2)]
  · rw [decide_eq_false (nnlt (by omega) (by omega)), Bool.false_and, decide_eq_false (fun q => h1 q.1)]
theorem x_onRug (hF : WF S) (hR : HR S w o) (t : Int32) : sh_56 o t w = some (isT S t, w) := by
  unfold sh_56
  rw [hR.1, hR.2.1]
  by_cases h0 : 0 ≤ t
  · rw [if_pos h0]
    by_cases h : isT S t = true
    · obtain ⟨k, e, hk, -⟩ := isT_t hF h
      have h' := h
      unfold isT at h'
      rw [Bool.and_eq_true, Bool.and_eq_true, decide_eq_true_eq, decide_eq_true_eq, decide_eq_true_eq] at h'
      rw [h, if_pos (by rw [e]; exact (nlt hk (by decide) : nI k < nI 144)), if_pos h'.2.1, if_pos h'.2.2]
    · have hf : isT S t = false := by simpa using h
      rw [hf]
      unfold isT at hf
      rw [decide_eq_true h0, Bool.true_and] at hf
      split
      · split
        · rename_i q1
          rw [decide_eq_true q1, Bool.true_and] at hf
          rw [if_neg (of_decide_eq_false hf)]
        · rfl
      · rfl
  · rw [if_neg h0]
    unfold isT
    rw [decide_eq_false h0]; rfl
/-- a wall on a TUFT -/
def isWl (S : Nat → Int32) (t : Int32) : Bool := decide (0 ≤ t) && (decide (t < 144) && decide (S (25 + ix t) = 1))
theorem x_isWall (hF : WF S) (hR : HR S w o) (t : Int32) : sh_50 o t w = some (isWl S t, w) := by
  unfold sh_50 isWl
  by_cases h0 : 0 ≤ t
  · rw [if_pos h0, decide_eq_true h0, Bool.true_and]
    by_cases h1 : t < 144
    · rw [if_pos h1, decide_eq_true h1, Bool.true_and]
      obtain ⟨k, hk, e⟩ := nI_ex h0
      subst e
      have hk2 : k < 144 := by
        have := (i_lt _ _).mp h1
        rw [i_nI hk, show (144 : Int32).toInt = 144 from rfl] at this
        omega
      rw [gd_nI hk2 (by decide), ix_nI hk, hR.2.2.2.2.2.2.2.2.1 k hk2]
      rcases hF.2.2.2.2.2.2.2.1 k hk2 with q | q <;> rw [q] <;> rfl
    · rw [if_neg h1, decide_eq_false h1]; rfl
  · rw [if_neg h0, decide_eq_false h0]; rfl
end HX
