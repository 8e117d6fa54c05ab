/-! calls that tell of ages, walks and WAYS -/
def ageN (W F : Nat) (d : Int32) : Int32 := if ∃ q, q < F + 1 ∧ 1 ≤ q ∧ d = nI (W * q) then nI F - d / nI W else -1
theorem mul81 {a b : Nat} (ha : a ≤ 9) (hb : b ≤ 9) : a * b ≤ 81 := Nat.mul_le_mul ha hb
theorem ageN_or {W F : Nat} (d : Int32) (h1 : 1 ≤ W) (h9 : W ≤ 9) (hF : F ≤ 9) : ageN W F d = -1 ∧ (¬ ∃ q, q < F + 1 ∧ 1 ≤ q ∧ d = nI (W * q)) ∨ ∃ a, a < F ∧ ageN W F d = nI a ∧ d = nI (W * (F - a)) := by
  unfold ageN
  by_cases h : ∃ q, q < F + 1 ∧ 1 ≤ q ∧ d = nI (W * q)
  · right
    rw [if_pos h]
    obtain ⟨q, q2, q1, e⟩ := h
    refine ⟨F - q, by omega, ?_, by rw [e, show F - (F - q) = q by omega]⟩
    have := mul81 h9 (show q ≤ 9 by omega)
    rw [e, nI_div (by omega) h1 (by omega), Nat.mul_div_cancel_left _ h1, pk_sub (by omega)]
  · left
    exact ⟨if_neg h, h⟩
theorem ageN_of {W F : Nat} {d : Int32} {w : Wd} {m : Option (Int32 × Wd)} (hW1 : 1 ≤ W) (hW9 : W ≤ 9) (hF9 : F ≤ 9) (h : (∃ j, j < F ∧ decide (nI (W * (F - j)) = d) = true ∧ (∀ i, i < j → decide (nI (W * (F - i)) = d) = false) ∧ m = some (nI j, w)) ∨ ((∀ i, i < F → decide (nI (W * (F - i)) = d) = false) ∧ m = some (-1, w))) : m = some (ageN W F d, w) := by
  rcases h with ⟨j, hj, h1, -, h3⟩ | ⟨h1, h2⟩
  · rw [h3]
    have e := of_decide_eq_true h1
    have := mul81 hW9 (show F - j ≤ 9 by omega)
    unfold ageN
    rw [if_pos ⟨F - j, by omega, by omega, e.symm⟩, ← e, nI_div (by omega) hW1 (by omega), Nat.mul_div_cancel_left _ hW1, pk_sub (by omega), show F - (F - j) = j by omega]
  · rw [h2]
    unfold ageN
    rw [if_neg (fun ⟨q, q2, q1, e⟩ => of_decide_eq_false (h1 (F - q) (by omega)) (by rw [show F - (F - q) = q by omega, e]))]
section CX
variable {S : Nat → Int32} {w : Wd} {o : Nat}
/-- a person's WEIGHT, the fade -/
theorem WF.wf (hF : WF S) {k : Nat} (hk : k < ix (S 2)) : ∃ W F, S (7 + k) = nI W ∧ S 6 = nI F ∧ 1 ≤ W ∧ W ≤ 9 ∧ 1 ≤ F ∧ F ≤ 9 := by
  obtain ⟨F, e, h1, h2⟩ := hF.2.2.2.2.2.1
  obtain ⟨⟨W, e2, h3, h4⟩, -⟩ := hF.2.2.2.2.2.2.1 k hk
  exact ⟨W, F, e2, e, h3, h4, h1, h2⟩
def ageS (S : Nat → Int32) (p d : Int32) : Int32 := if isK S 2 p = true then ageN (ix (S (7 + ix p))) (ix (S 6)) d else -1
theorem x_ageOf {h : Nat} (hF : WF S) (hR : HR S w h) (p d : Int32) : sh_104 h p d w = some (ageS S p d, w) := by
  unfold sh_104 ageS
  rw [cl_e (x_weightOf hF hR p)]
  unfold atK
  by_cases hp : isK S 2 p = true
  · rw [if_pos hp, if_pos hp]
    obtain ⟨k, e, hk, hkp⟩ := isK_t hp
    subst e
    obtain ⟨W, F, eW, eF, hW1, hW9, hF1, hF9⟩ := hF.wf hkp
    rw [ix_nI hk, eW, eF, ix_nI (by omega), ix_nI (by omega), if_pos (jle' hW1 (by omega))]
    by_cases hd : 1 ≤ d
    · rw [if_pos hd]
      obtain ⟨m, hm, em⟩ := nI_ex (x := d) (by rw [i_le] at hd ⊢; have : (1 : Int) ≤ d.toInt := hd; show (0 : Int) ≤ _; omega)
      subst em
      have hm1 : 1 ≤ m := by
        rw [i_le, i_nI hm] at hd
        have : (1 : Int) ≤ m := hd
        omega
      have hmW : m / W < 2147483648 := Nat.lt_of_le_of_lt (Nat.div_le_self _ _) hm
      have hmw : m % W < W := Nat.mod_lt _ hW1
      rw [gd_t (decide_eq_true (nI_ne0 hW1 (by omega))), nI_rem hm hW1 (by omega)]
      have hq : (∃ q, q < F + 1 ∧ 1 ≤ q ∧ nI m = nI (W * q)) ↔ m % W = 0 ∧ m / W ≤ F := by
        constructor
        · rintro ⟨q, q2, q1, e⟩
          have := mul81 hW9 (show q ≤ 9 by omega)
          rw [nI_eq hm (by omega)] at e
          rw [e, Nat.mul_mod_right, Nat.mul_div_cancel_left _ hW1]
          exact ⟨rfl, by omega⟩
        · rintro ⟨e1, e2⟩
          have e3 := Nat.div_add_mod m W
          refine ⟨m / W, by omega, ?_, by rw [show W * (m / W) = m by omega]⟩
          by_cases z : m / W = 0
          · rw [z, e1] at e3; omega
          · exact Nat.one_le_iff_ne_zero.mpr z
      by_cases h0 : m % W = 0
      · rw [h0, if_pos (show nI 0 = 0 from rfl), gd_t (decide_eq_true (nI_ne0 hW1 (by omega))), cl_e (x_fadeDays hR), eF, nI_div hm hW1 (by omega)]
        unfold ageN
        by_cases h1 : m / W ≤ F
        · rw [if_neg (nnlt h1 (by omega)), cl_e (x_fadeDays hR), gd_t (decide_eq_true (nI_ne0 hW1 (by omega))), if_pos (hq.mpr ⟨h0, h1⟩), eF, nI_div hm hW1 (by omega)]
        · rw [if_pos (nlt (by omega) hmW), if_neg (fun q => h1 (hq.mp q).2)]
      · rw [if_neg (nI_ne0 (by omega) (by omega))]
        unfold ageN
        rw [if_neg (fun q => h0 (hq.mp q).1)]
    · rw [if_neg hd]
      unfold ageN
      rw [if_neg (fun ⟨q, q2, q1, e⟩ => hd (by
        rw [e]
        have := mul81 hW9 (show q ≤ 9 by omega)
        exact jle' (a := 1) (Nat.mul_pos hW1 q1) (by omega)))]
  · rw [if_neg hp, if_neg hp, if_neg (by decide)]
theorem y_ageBy (hF : WF S) (hS : wI w (o + 2) = S) {k : Nat} (hk : k < ix (S 2)) (d : Int32) : sh_239 o (nI k) d w = some (ageS S (nI k) d, w) := by
  obtain ⟨P, eP, hP⟩ := hF.2.1
  obtain ⟨W, F, eW, eF, hW1, hW9, hF1, hF9⟩ := hF.wf hk
  have hk2 := hk
  rw [eP, ix_nI (by omega)] at hk2
  have e0 : ageS S (nI k) d = ageN W F d := by
    unfold ageS
    rw [isK_nI (by omega) eP (by omega), decide_eq_true hk2, if_pos rfl, ix_nI (by omega), eW, eF, ix_nI (by omega), ix_nI (by omega)]
  rw [e0]
  refine ageN_of hW1 hW9 hF9 ?_
  unfold sh_239
  refine itM_find (fun a => decide (nI (W * (F - a)) = d)) (fun a => nI a) (-1) F w (fun j hj => ?_) ?_ rfl (by omega)
  · show gd (ib 6 10265) _ = _
    rw [gd_l (by decide) (by decide), hS, ix_6, eF, if_pos (nlt hj (by omega)), l7, nI_p, gd_nI (by omega) (by decide), gd_l (by decide) (by decide), ix_nI (by omega), eW, pk_sub (by omega), nI_m]
    by_cases h : nI (W * (F - j)) = d
    · rw [if_pos h, if_pos (decide_eq_true h)]
    · rw [if_neg h, if_neg (by rw [decide_eq_false h]; decide)]
      simp only [lt_s_, nI_s]
  · show gd (ib 6 10265) _ = _
    rw [gd_l (by decide) (by decide), hS, ix_6, eF, if_neg (nnlt (Nat.le_refl _) (by omega))]
theorem ageS_or (hF : WF S) {k : Nat} (hk : k < ix (S 2)) (d : Int32) : ageS S (nI k) d = -1 ∨ ∃ a, a < 9 ∧ ageS S (nI k) d = nI a := by
  obtain ⟨P, eP, hP⟩ := hF.2.1
  obtain ⟨W, F, eW, eF, hW1, hW9, hF1, hF9⟩ := hF.wf hk
  rw [eP, ix_nI (by omega)] at hk
  unfold ageS
  rw [isK_nI (by omega) eP (by omega), decide_eq_true hk, if_pos rfl, ix_nI (by omega), eW, eF, ix_nI (by omega), ix_nI (by omega)]
  rcases ageN_or d hW1 hW9 hF9 with ⟨h, -⟩ | ⟨a, h1, h2, -⟩
  · exact Or.inl h
  · exact Or.inr ⟨a, by omega, h2⟩
theorem x_age (h : XS S w) (p d : Int32) : sh_105 0 p d w = some (ageS S p d, w) := by
  obtain ⟨hF, hW, hr, a, ha, hR⟩ := h
  unfold sh_105
  rw [der_e ha, cl_e (x_ageOf hF hR p d)]
theorem y_age (hF : WF S) (hS : wI w 168 = S) (p d : Int32) : sh_240 166 p d w = some (ageS S p d, sI w 166 0 0) := by
  unfold sh_240
  rw [stI_s, cl_e (y_isPerson hF (m0 hS) p)]
  by_cases hp : isK S 2 p = true
  · obtain ⟨k, e, hk, hkp⟩ := isK_t hp
    subst e
    rw [if_pos hp, cl_e (y_ageBy hF (m0 hS) hkp d)]
  · rw [if_neg hp]
    unfold ageS
    rw [if_neg hp]
def whoF (S : Nat → Int32) (d : Int32) (n : Nat) : Int32 := fo (fun k v => if ageS S (nI k) d = -1 then v else v ||| (1 <<< (nI k &&& 31))) n 0
def whoS (S : Nat → Int32) (d : Int32) : Int32 := if whoF S d (ix (S 2)) = 0 then -1 else whoF S d (ix (S 2))
theorem x_who (h : XS S w) (d : Int32) : sh_103 0 d w = some (whoS S d, w) := by
  obtain ⟨hF, hW, hr, a, ha, hR⟩ := h
  obtain ⟨P, eP, hP⟩ := hF.2.1
  unfold sh_103 whoS
  rw [eP, ix_nI (by omega)]
  refine itM_acc2 (fun j => whoF S d j) P w (fun j hj => ?_) ?_ rfl (by omega)
  · show der (wR w 0 2) _ = _
    rw [der_e ha, hR.2.2.1, eP, if_pos (nlt hj (by omega)), der_e ha, cl_e (x_ageOf hF hR _ d)]
    have e : whoF S d (j + 1) = if ageS S (nI j) d = -1 then whoF S d j else whoF S d j ||| (1 <<< (nI j &&& 31)) := rfl
    by_cases h : ageS S (nI j) d = -1
    · rw [if_pos h] at e ⊢
      simp only [lt_s_, nI_s, e]
    · rw [if_neg h] at e ⊢
      simp only [lt_s_, nI_s, e]
  · show der (wR w 0 2) _ = _
    rw [der_e ha, hR.2.2.1, eP, if_neg (nnlt (Nat.le_refl _) (by omega))]
    rfl
theorem y_who (hF : WF S) (hS : wI w 168 = S) (d : Int32) : sh_238 166 d w = some (whoS S d, sI w 166 0 0) := by
  obtain ⟨P, eP, hP⟩ := hF.2.1
  unfold sh_238 whoS
  rw [stI_s, eP, ix_nI (by omega)]
  refine itM_acc2 (fun j => whoF S d j) P _ (fun j hj => ?_) ?_ rfl (by omega)
  · show gd (ib 2 10265) _ = _
    rw [gd_l (by decide) (by decide), m0 hS, ix_2, eP, if_pos (nlt hj (by omega)), cl_e (y_ageBy hF (m0 hS) (by rw [eP, ix_nI (by omega)]; exact hj) d)]
    have e : whoF S d (j + 1) = if ageS S (nI j) d = -1 then whoF S d j else whoF S d j ||| (1 <<< (nI j &&& 31)) := rfl
    rcases ageS_or hF (k := j) (by rw [eP, ix_nI (by omega)]; exact hj) d with h | ⟨a, ha, h⟩
    · rw [if_pos h] at e
      rw [h, if_neg (by decide)]
      simp only [lt_s_, nI_s, e, Int32.or_zero]
    · rw [if_neg (by rw [h, i_eq, i_nI (by omega)]; show ¬ (a : Int) = -1; omega)] at e
      rw [h, if_pos (n0le (by omega))]
      simp only [lt_s_, nI_s, e]
  · show gd (ib 2 10265) _ = _
    rw [gd_l (by decide) (by decide), m0 hS, ix_2, eP, if_neg (nnlt (Nat.le_refl _) (by omega))]
    rfl
/-- the first of the fewest walks -/
def rarF (S : Nat → Int32) (n : Nat) : Option Nat := fo (fun k b => match b with
  | none => some k
  | some i => if S (430 + k) < S (430 + i) then some k else some i) n none
def eNone (b : Option Nat) : Int32 := match b with
  | none => -1
  | some i => nI i
theorem rarF_lt (n : Nat) : ∀ i, rarF S n = some i → i < n := by
  induction n with
  | zero => intro i h; cases h
  | succ n ih =>
    intro i h
    have e : rarF S (n + 1) = match rarF S n with
      | none => some n
      | some i => if S (430 + n) < S (430 + i) then some n else some i := rfl
    rw [e] at h
    cases hq : rarF S n with
    | none => rw [hq] at h; cases h; omega
    | some i' =>
      rw [hq] at h
      have := ih i' hq
      dsimp only at h
      split at h <;> cases h <;> omega
theorem x_rarest (h : XS S w) : sh_156 0 w = some (eNone (rarF S (ix (S 2))), w) := by
  obtain ⟨hF, hW, hr, a, ha, hR⟩ := h
  obtain ⟨P, eP, hP⟩ := hF.2.1
  unfold sh_156
  rw [eP, ix_nI (by omega)]
  refine itM_acc2 (fun j => eNone (rarF S j)) P _ (fun j hj => ?_) ?_ rfl (by omega)
  · show der (wR w 0 2) _ = _
    rw [der_e ha, hR.2.2.1, eP, if_pos (nlt hj (by omega))]
    have e : rarF S (j + 1) = match rarF S j with
      | none => some j
      | some i => if S (430 + j) < S (430 + i) then some j else some i := rfl
    cases hq : rarF S j with
    | none =>
      rw [hq] at e
      rw [show eNone none = -1 from rfl, if_pos rfl]
      simp only [lt_s_, nI_s, e, eNone]
    | some i =>
      rw [hq] at e
      have hi := rarF_lt (S := S) j i hq
      rw [show eNone (some i) = nI i from rfl, if_neg (by rw [i_eq, i_nI (by omega)]; show ¬ (i : Int) = -1; omega), Nat.zero_add, cl_e (x_walksOf hr (by omega)), cl_e (x_walksOf hr (by omega))]
      dsimp only at e
      by_cases h : S (430 + j) < S (430 + i)
      · rw [if_pos h] at e ⊢
        simp only [lt_s_, nI_s, e, eNone]
      · rw [if_neg h] at e ⊢
        simp only [lt_s_, nI_s, e, eNone]
  · show der (wR w 0 2) _ = _
    rw [der_e ha, hR.2.2.1, eP, if_neg (nnlt (Nat.le_refl _) (by omega))]
theorem y_rarest (hF : WF S) (hS : wI w 168 = S) : sh_271 166 w = some (eNone (rarF S (ix (S 2))), sI w 166 0 0) := by
  obtain ⟨P, eP, hP⟩ := hF.2.1
  unfold sh_271
  rw [stI_s, eP, ix_nI (by omega)]
  refine itM_acc2 (fun j => eNone (rarF S j)) P _ (fun j hj => ?_) ?_ rfl (by omega)
  · show gd (ib 2 10265) _ = _
    rw [gd_l (by decide) (by decide), m0 hS, ix_2, eP, if_pos (nlt hj (by omega))]
    have e : rarF S (j + 1) = match rarF S j with
      | none => some j
      | some i => if S (430 + j) < S (430 + i) then some j else some i := rfl
    cases hq : rarF S j with
    | none =>
      rw [hq] at e
      rw [show eNone none = -1 from rfl, if_neg (by decide)]
      simp only [lt_s_, nI_s, e, eNone]
    | some i =>
      rw [hq] at e
      have hi := rarF_lt (S := S) j i hq
      rw [show eNone (some i) = nI i from rfl, if_pos (n0le (by omega)), l430, nI_p, nI_p, gd_nI (by omega) (by decide), gd_nI (by omega) (by decide), ix_nI (by omega), ix_nI (by omega)]
      dsimp only at e
      by_cases h : S (430 + j) < S (430 + i)
      · rw [if_pos h] at e ⊢
        simp only [lt_s_, nI_s, e, eNone]
      · rw [if_neg h] at e ⊢
        simp only [lt_s_, nI_s, e, eNone]
  · show gd (ib 2 10265) _ = _
    rw [gd_l (by decide) (by decide), m0 hS, ix_2, eP, if_neg (nnlt (Nat.le_refl _) (by omega))]
theorem x_way (h : XS S w) (p i : Int32) : sh_64 0 p i w = some (wayS S p i, w) := by
  obtain ⟨hF, hW, hr, a, ha, hR⟩ := h
  unfold sh_64
  rw [der_e ha, cl_e (x_tuftOf hF hR p i)]
theorem y_way (hF : WF S) (hS : wI w 168 = S) (p i : Int32) : sh_220 166 p i w = some (wayS S p i, sI w 166 0 0) := by
  unfold sh_220 wayS
  rw [stI_s, cl_e (y_isWay hF (m0 hS) p)]
  by_cases hp : isK S 3 p = true
  · obtain ⟨k, e, hk, hkp⟩ := isK_t hp
    subst e
    obtain ⟨Y, eY, hY⟩ := hF.2.2.1
    obtain ⟨n, en, hn1, hn2, hway⟩ := hF.2.2.2.2.2.2.2.2.2 k hkp
    rw [eY, ix_nI (by omega)] at hkp
    rw [if_pos hp, l177, nI_p, gd_nI (by omega) (by decide), ix_nI (by omega), ix_nI hk, m0 hS, cl_e (isIn_K en (by omega) i _)]
    by_cases hi : isK S (177 + k) i = true
    · obtain ⟨j, e, hj, hjp⟩ := isK_t hi
      subst e
      have hi2 := hi
      unfold isK at hi2
      rw [Bool.and_eq_true, decide_eq_true_eq, decide_eq_true_eq] at hi2
      rw [en, ix_nI (by omega)] at hjp
      rw [if_pos hi, l183, l41, nI_m, nI_p, nI_p, gd_nI (by omega) (by decide), ix_nI (by omega), ix_nI hj, if_pos ⟨hp, hi2.1, hi2.2⟩, m0 hS]
    · rw [if_neg hi, if_neg (fun q => hi (by unfold isK; rw [Bool.and_eq_true]; exact ⟨decide_eq_true q.2.1, decide_eq_true q.2.2⟩))]
  · rw [if_neg hp, if_neg (fun q => hp q.1)]
end CX
