/-! WORDS -/
def wdL (i : Nat) : List Nat := ([[18, 21, 7], [16, 5, 18, 19, 15, 14], [23, 1, 12, 12], [4, 15, 15, 18], [23, 1, 25], [6, 1, 4, 5], [14], [5], [19], [23], [15, 18], [1, 14, 4], [14, 15, 20], [20, 18, 15, 4], [23, 5, 9, 7, 8, 20], [19, 15, 12, 5], [16, 1, 3, 5], [16, 18, 9, 14, 20, 19], [20, 21, 6, 20, 19], [16, 12, 1, 3, 5]] : List (List Nat)).getD i []
def okL (l : List Nat) : Prop := 1 ≤ l.length ∧ l.length ≤ 7 ∧ ∀ x ∈ l, 1 ≤ x ∧ x ≤ 26
theorem nil_or_app (l : List Nat) : l = [] ∨ ∃ L x, l = L ++ [x] := by
  rcases List.eq_nil_or_concat l with q | ⟨L, x, q⟩
  · exact Or.inl q
  · exact Or.inr ⟨L, x, by rw [q, List.concat_eq_append]⟩
theorem wdL_c : ∀ i, i < 20 → zwc i = lN (en5 (wdL i)) := by decide
theorem wdL_ok : ∀ i, i < 20 → okL (wdL i) := by unfold okL; decide
theorem wdL_inj : ∀ i, i < 20 → ∀ j, j < 20 → wdL i = wdL j → i = j := by decide
theorem en5_inj : ∀ k (l1 l2 : List Nat), l1.length ≤ k → (∀ x ∈ l1, 1 ≤ x ∧ x ≤ 26) → (∀ x ∈ l2, 1 ≤ x ∧ x ≤ 26) → en5 l1 = en5 l2 → l1 = l2 := by
  intro k
  induction k with
  | zero =>
    intro l1 l2 hk h1 h2 he
    have e1 : l1 = [] := List.length_eq_zero_iff.mp (by omega)
    subst e1
    rcases nil_or_app l2 with q | ⟨L, x, q⟩
    · exact q.symm
    · subst q
      have hx := h2 x (by simp)
      rw [en5_app] at he
      have : en5 [] = 0 := rfl
      omega
  | succ k ih =>
    intro l1 l2 hk h1 h2 he
    rcases nil_or_app l1 with q1 | ⟨L1, x1, q1⟩ <;> rcases nil_or_app l2 with q2 | ⟨L2, x2, q2⟩
    · rw [q1, q2]
    · subst q1; subst q2
      have hx := h2 x2 (by simp)
      rw [en5_app] at he
      have : en5 [] = 0 := rfl
      omega
    · subst q1; subst q2
      have hx := h1 x1 (by simp)
      rw [en5_app] at he
      have : en5 [] = 0 := rfl
      omega
    · subst q1; subst q2
      have hx1 := h1 x1 (by simp)
      have hx2 := h2 x2 (by simp)
      rw [en5_app, en5_app] at he
      rw [List.length_append, List.length_singleton] at hk
      have e1 : x1 = x2 := by omega
      have e2 := ih L1 L2 (by omega) (fun x hx => h1 x (by simp [hx])) (fun x hx => h2 x (by simp [hx])) (by omega)
      rw [e1, e2]
theorem en8_inj : ∀ k (l1 l2 : List Nat), l1.length ≤ k → (∀ x ∈ l1, 1 ≤ x ∧ x ≤ 26) → (∀ x ∈ l2, 1 ≤ x ∧ x ≤ 26) → en8 l1 = en8 l2 → l1 = l2 := by
  intro k
  induction k with
  | zero =>
    intro l1 l2 hk h1 h2 he
    have e1 : l1 = [] := List.length_eq_zero_iff.mp (by omega)
    subst e1
    rcases nil_or_app l2 with q | ⟨L, x, q⟩
    · exact q.symm
    · subst q
      have hx := h2 x (by simp)
      rw [en8_app] at he
      have : en8 [] = 0 := rfl
      omega
  | succ k ih =>
    intro l1 l2 hk h1 h2 he
    rcases nil_or_app l1 with q1 | ⟨L1, x1, q1⟩ <;> rcases nil_or_app l2 with q2 | ⟨L2, x2, q2⟩
    · rw [q1, q2]
    · subst q1; subst q2
      have hx := h2 x2 (by simp)
      rw [en8_app] at he
      have : en8 [] = 0 := rfl
      omega
    · subst q1; subst q2
      have hx := h1 x1 (by simp)
      rw [en8_app] at he
      have : en8 [] = 0 := rfl
      omega
    · subst q1; subst q2
      have hx1 := h1 x1 (by simp)
      have hx2 := h2 x2 (by simp)
      rw [en8_app, en8_app] at he
      rw [List.length_append, List.length_singleton] at hk
      have e1 : x1 = x2 := by omega
      have e2 := ih L1 L2 (by omega) (fun x hx => h1 x (by simp [hx])) (fun x hx => h2 x (by simp [hx])) (by omega)
      rw [e1, e2]
theorem en5_up (k : Nat) : ∀ l : List Nat, l.length ≤ k → (∀ x ∈ l, 1 ≤ x ∧ x ≤ 26) → en5 l < 32 ^ k := by
  induction k with
  | zero =>
    intro l hk _
    have e1 : l = [] := List.length_eq_zero_iff.mp (by omega)
    subst e1
    decide
  | succ k ih =>
    intro l hk h
    rcases nil_or_app l with q | ⟨L, x, q⟩
    · subst q
      show 0 < 32 ^ (k + 1)
      exact Nat.pow_pos (by decide)
    · subst q
      have hx := h x (by simp)
      rw [List.length_append, List.length_singleton] at hk
      have := ih L (by omega) (fun x hx => h x (by simp [hx]))
      rw [en5_app, Nat.pow_succ]
      omega
theorem en8_up (k : Nat) : ∀ l : List Nat, l.length ≤ k → (∀ x ∈ l, 1 ≤ x ∧ x ≤ 26) → en8 l < 256 ^ k := by
  induction k with
  | zero =>
    intro l hk _
    have e1 : l = [] := List.length_eq_zero_iff.mp (by omega)
    subst e1
    decide
  | succ k ih =>
    intro l hk h
    rcases nil_or_app l with q | ⟨L, x, q⟩
    · subst q
      show 0 < 256 ^ (k + 1)
      exact Nat.pow_pos (by decide)
    · subst q
      have hx := h x (by simp)
      rw [List.length_append, List.length_singleton] at hk
      have := ih L (by omega) (fun x hx => h x (by simp [hx]))
      rw [en8_app, Nat.pow_succ]
      omega
theorem lN_inj {a c : Nat} (ha : a < 2 ^ 63) (hc : c < 2 ^ 63) (h : lN a = lN c) : a = c := by
  have h1 : (lN a).toInt = (a : Int) := lg_ofNat_toInt ha
  have h2 : (lN c).toInt = (c : Int) := lg_ofNat_toInt hc
  rw [h, h2] at h1
  omega
/-- two WORDS are the same -/
theorem wd5 {l1 l2 : List Nat} (h1 : okL l1) (h2 : okL l2) : lN (en5 l1) = lN (en5 l2) ↔ l1 = l2 := by
  have u1 := en5_up 7 l1 h1.2.1 h1.2.2
  have u2 := en5_up 7 l2 h2.2.1 h2.2.2
  have e : (32 : Nat) ^ 7 < 2 ^ 63 := by decide
  exact ⟨fun z => en5_inj 7 l1 l2 h1.2.1 h1.2.2 h2.2.2 (lN_inj (by omega) (by omega) z), fun z => by rw [z]⟩
theorem wd8 {l1 l2 : List Nat} (h1 : okL l1) (h2 : okL l2) : lN (en8 l1) = lN (en8 l2) ↔ l1 = l2 := by
  have u1 := en8_up 7 l1 h1.2.1 h1.2.2
  have u2 := en8_up 7 l2 h2.2.1 h2.2.2
  have e : (256 : Nat) ^ 7 < 2 ^ 63 := by decide
  exact ⟨fun z => en8_inj 7 l1 l2 h1.2.1 h1.2.2 h2.2.2 (lN_inj (by omega) (by omega) z), fun z => by rw [z]⟩
section WO
variable {n lim m i : Nat} {b : Nat → Nat} {w w' : Wd}
theorem lettL_len (p : Nat) : ∀ k, (lettL b p k).length = k := by
  intro k
  induction k with
  | zero => rfl
  | succ k ih =>
    show (lettL b p k ++ [b (p + k) - 96]).length = k + 1
    rw [List.length_append, ih, List.length_singleton]
theorem lettL_ok (p : Nat) : ∀ k, cLet b p k = k → ∀ x ∈ lettL b p k, 1 ≤ x ∧ x ≤ 26 := by
  intro k
  induction k with
  | zero => intro _ x hx; exact absurd hx List.not_mem_nil
  | succ k ih =>
    intro h x hx
    have ec : cLet b p (k + 1) = cLet b p k + if alB (b (p + k)) = true then 1 else 0 := rfl
    have hcl := cLet_le (b := b) p k
    have ha := cLet_all (b := b) (k + 1) h k (by omega)
    rcases List.mem_append.mp (show x ∈ lettL b p k ++ [b (p + k) - 96] from hx) with q | q
    · refine ih ?_ x q
      rw [ec] at h
      split at h <;> omega
    · have q2 := List.mem_singleton.mp q
      unfold alB at ha
      simp at ha
      omega
theorem tok_wd {p : Nat} (hp : p < n) (h : (tokB n b p).1 = 1) : okL (tokB n b p).2 := by
  unfold tokB at h ⊢
  by_cases hg : goB (b p) = true
  · have hgt := endB_gt (b := b) hp
    unfold endB at hgt
    rw [if_pos hg] at h ⊢ hgt
    by_cases c1 : cLet b p (reB n b p - p) = reB n b p - p ∧ reB n b p - p ≤ 7
    · rw [if_pos c1]
      refine ⟨?_, ?_, lettL_ok p _ c1.1⟩
      · show 1 ≤ (lettL b p (reB n b p - p)).length
        rw [lettL_len]; omega
      · show (lettL b p (reB n b p - p)).length ≤ 7
        rw [lettL_len]; exact c1.2
    · rw [if_neg c1] at h
      by_cases c2 : cLet b p (reB n b p - p) = 0 ∧ reB n b p - p ≤ 3
      · rw [if_pos c2] at h; cases h
      · rw [if_neg c2] at h; cases h
  · rw [if_neg hg] at h
    by_cases c3 : sgB (b p) = true
    · rw [if_pos c3] at h; cases h
    · rw [if_neg c3] at h; cases h
theorem tkA_wd (hT : TM n b (min n lim) m) (h : (tkA n b m i).1 = 1) : okL (tkA n b m i).2 := by
  unfold tkA at h ⊢
  by_cases q : i < m
  · rw [if_pos q] at h ⊢
    have := hT.1 i q
    exact tok_wd (by omega) h
  · rw [if_neg q] at h; cases h
/-- the WORD number j is at hand -/
def wdOk (t : Nat × List Nat) (j : Nat) : Prop := t.1 = 1 ∧ t.2 = wdL j
/-- a NAME is at hand: a WORD, none of the 20 -/
def nmOk (t : Nat × List Nat) : Prop := t.1 = 1 ∧ ∀ j, j < 20 → ¬ t.2 = wdL j
theorem y_isWord (h : MK n b lim m i w) (hT : TM n b (min n lim) m) {j : Nat} (hj : j < 20) : tp (sh_196 166 (lN (en8 (wdL j))) w) (fun v w' => w' = w ∧ (v = true ↔ wdOk (tkA n b m i) j)) := by
  unfold sh_196 wdOk
  by_cases q : (tkA n b m i).1 = 1
  · have hk : wI w 166 11 = 1 ∧ wL w 166 17 = lN (en8 (tkA n b m i).2) := by
      rcases y_kind h with ⟨h0, -⟩ | ⟨-, hk⟩ | ⟨h1, -⟩ | ⟨h1, -⟩ | ⟨h1, -⟩
      · omega
      · exact hk
      · omega
      · omega
      · omega
    rw [hk.2]
    have hw := wd8 (tkA_wd hT q) (wdL_ok j hj)
    refine tp_if hk.1 (tp_ite (fun z => tp_some ⟨rfl, fun _ => ⟨q, hw.mp z⟩, fun _ => rfl⟩) (fun z => tp_some ⟨rfl, fun y => (by cases y), fun y => absurd (hw.mpr y.2) z⟩))
  · have hk : ¬ wI w 166 11 = 1 := by
      rcases y_kind h with ⟨-, -, hk⟩ | ⟨h1, -⟩ | ⟨h1, hk, -⟩ | ⟨h1, hk, -⟩ | ⟨h1, hk⟩
      · rw [hk]; split <;> decide
      · exact absurd h1 q
      · rw [hk]; decide
      · rw [hk]; decide
      · rw [hk]; decide
    exact tp_ifn hk (tp_some ⟨rfl, fun y => (by cases y), fun y => absurd y.1 q⟩)
theorem x_wordHere (h : XP n b lim m i w) : tp (sh_33 1 w) (fun v w' => w' = w ∧ ((∃ j, j < 20 ∧ v = some (1010 + j) ∧ wdOk (tkA n b m i) j) ∨ (v = none ∧ ∀ j, j < 20 → ¬ wdOk (tkA n b m i) j))) := by
  have hT := h.1.2.2.2.1
  unfold sh_33
  refine tp_ce (x_is h 2) (tp_jn ?_)
  by_cases q : wI w 4 i = 2
  · have hk : ∃ j, j < 20 ∧ wL w 5 i = (nI j).toInt64 ∧ wdOk (tkA n b m i) j := by
      rcases x_kind h with ⟨-, -, hk⟩ | ⟨h1, hk⟩ | ⟨-, hk, -⟩ | ⟨-, hk, -⟩ | ⟨-, hk⟩
      · rw [hk] at q; exact absurd q (by decide)
      · rcases hk with ⟨hk, -⟩ | ⟨j, hj, -, hv, hz⟩
        · rw [hk] at q; exact absurd q (by decide)
        · refine ⟨j, hj, hv, h1, ?_⟩
          rw [wdL_c j hj] at hz
          exact ((wd5 (wdL_ok j hj) (tkA_wd hT h1)).mp hz).symm
      · rw [hk] at q; exact absurd q (by decide)
      · rw [hk] at q; exact absurd q (by decide)
      · rw [hk] at q; exact absurd q (by decide)
    obtain ⟨j, hj, hv, hw⟩ := hk
    refine tp_if (decide_eq_true q) (tp_ce (x_value h) ?_)
    rw [hv, nI_l (by omega), lN_i]
    refine tp_if (n0le (by omega)) (tp_if (show nI j < 20 from nlt (b := 20) hj (by decide)) (tp_gd (ib_nI hj (by decide)) (tp_some ⟨rfl, Or.inl ⟨j, hj, ?_, hw⟩⟩)))
    rw [ix_nI (by omega)]
  · refine tp_ifn (by rw [decide_eq_false q]; decide) (tp_ifn (by decide) (tp_some ⟨rfl, Or.inr ⟨rfl, fun j hj hw => ?_⟩⟩))
    rcases x_kind h with ⟨h1, -⟩ | ⟨h1, hk⟩ | ⟨h1, -⟩ | ⟨h1, -⟩ | ⟨h1, -⟩
    · have := hw.1; omega
    · rcases hk with ⟨-, -, hno⟩ | ⟨_, _, hk, -⟩
      · exact hno j hj (by rw [wdL_c j hj, hw.2])
      · exact q hk
    · have := hw.1; omega
    · have := hw.1; omega
    · have := hw.1; omega
end WO
