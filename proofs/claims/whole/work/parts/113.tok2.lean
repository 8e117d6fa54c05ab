/-! the class tells TOKENS -/
def tkP (q : Nat) : Prop := q = 1 ∨ (3 ≤ q ∧ q ≤ 5)
section TE
variable {n m : Nat} {b : Nat → Nat} {w : Wd}
theorem n_sub {x y : Nat} (h : y ≤ x) : nI x - nI y = nI (x - y) := by
  have : nI x = nI (x - y) + nI y := by rw [nI_p, Nat.sub_add_cancel h]
  rw [this, Int32.add_sub_cancel]
theorem x_put28 (e5 : wI w 1 5 = nI m) (hm : m ≤ 940) (p k : Int32) (v : Int64) : tp (sh_28 1 p k v w) (fun _ w' => wI w' 1 5 = nI (m + 1) ∧ (∀ i, wI w' 3 i = if i = m then p else wI w 3 i) ∧ (∀ i, wI w' 4 i = if i = m then k else wI w 4 i) ∧ (∀ i, wL w' 5 i = if i = m then v else wL w 5 i) ∧ Kp tkP w w' ∧ Ft (fun j => j = 5) w w') := by
  unfold sh_28
  rw [e5, ix_nI (by omega)]
  refine tp_if (n0le (by omega)) (tp_if (show nI m ≤ 940 from nle (b := 940) hm (by decide)) (tp_gd (ib_nI (by omega) (by decide)) (tp_stI ?_)))
  rw [wI_row (show ¬ 1 = 1 + 2 by decide), e5, ix_nI (by omega)]
  refine tp_gd (ib_nI (by omega) (by decide)) (tp_stI ?_)
  rw [wI_row (show ¬ 1 = 1 + 3 by decide), wI_row (show ¬ 1 = 1 + 2 by decide), e5, ix_nI (by omega)]
  refine tp_gd (ib_nI (by omega) (by decide)) (tp_stL ?_)
  rw [wI_sL, wI_row (show ¬ 1 = 1 + 3 by decide), wI_row (show ¬ 1 = 1 + 2 by decide), e5, nI_s]
  refine tp_stI (tp_some ⟨wI_same, fun i => ?_, fun i => ?_, fun i => ?_, (((kp0 (P := tkP) (by unfold tkP; omega)).sI (by unfold tkP; omega) _ _).sL (by unfold tkP; omega) _ _).sI (by unfold tkP; omega) _ _, fun j hj => ?_⟩)
  · rw [wI_row (by decide), wI_sL, wI_row (by decide), show 1 + 2 = 3 from rfl, wI_up]; rfl
  · rw [wI_row (by decide), wI_sL, show 1 + 3 = 4 from rfl, wI_up, wI_row (by decide)]; rfl
  · rw [wL_sI', show 1 + 4 = 5 from rfl, wL_up]; rfl
  · rw [wI_other hj, wI_sL, wI_row (by decide), wI_row (by decide)]
theorem x_putTok (h : XKt n b m w) (hm : m ≤ 940) {p : Nat} (ep : p = stB n b m) {k : Int32} {v : Int64} (hk : kvX (tokB n b p) k v) : tp (sh_28 1 (nI p) k v w) (fun _ w' => XKt n b (m + 1) w' ∧ Kp tkP w w' ∧ Ft (fun j => j = 5) w w') := by
  subst ep
  refine tp_mono (x_put28 h.1 hm _ _ _) (fun _ w' h' => ?_)
  obtain ⟨h5, h3, h4, hL, hK, hF⟩ := h'
  refine ⟨⟨h5, fun i hi => ?_⟩, hK, hF⟩
  rw [h3, h4, hL]
  by_cases q : i = m
  · rw [if_pos q, if_pos q, if_pos q, q]
    exact ⟨rfl, hk⟩
  · rw [if_neg q, if_neg q, if_neg q]
    exact h.2 i (by omega)
theorem x_wordOf (c : Int64) : tp (sh_27 c w) (fun v w' => w' = w ∧ ((v = -1 ∧ ∀ i, i < 20 → ¬ zwc i = c) ∨ ∃ i, i < 20 ∧ v = nI i ∧ zwc i = c)) := by
  unfold sh_27
  refine tp_it (fun j s w' => w' = w ∧ s = nI j ∧ j ≤ 20 ∧ ∀ i, i < j → ¬ zwc i = c) 20 (by omega) ⟨rfl, rfl, by omega, fun i hi => by omega⟩ (fun j s w' hI => ?_)
  obtain ⟨ew, es, hj, hno⟩ := hI
  subst es
  rw [ew]
  refine tp_ite (fun z => ?_) (fun z => ?_)
  · have hj2 : j < 20 := (nlt_i (by omega) (by decide)).mp (show nI j < nI 20 from z)
    rw [ix_nI (by omega), Nat.add_sub_cancel_left]
    refine tp_gd (ib_nI hj2 (by decide)) (tp_gd (decide_eq_true (by omega)) (tp_ite (fun q => ?_) (fun q => ?_)))
    · exact tp_out ⟨rfl, Or.inr ⟨j, hj2, rfl, q⟩⟩
    · rw [nI_s]
      refine tp_lt (tp_on ⟨hj2, rfl, rfl, by omega, fun i hi => ?_⟩)
      by_cases y : i = j
      · rw [y]; exact q
      · exact hno i (by omega)
  · have hj2 : ¬ j < 20 := fun q => z (nlt q (by decide))
    exact tp_out ⟨rfl, Or.inl ⟨rfl, fun i hi => hno i (by omega)⟩⟩
theorem cLet_le (p k : Nat) : cLet b p k ≤ k := by
  induction k with
  | zero => exact Nat.le_refl _
  | succ k ih =>
    show cLet b p k + (if alB (b (p + k)) = true then 1 else 0) ≤ k + 1
    split <;> omega
theorem en5_app (l : List Nat) (x : Nat) : en5 (l ++ [x]) = en5 l * 32 + x := by
  unfold en5
  rw [List.foldl_append]; rfl
theorem x_putRun (h : XT n b w) (hk : XKt n b m w) (hm : m ≤ 940) {p : Nat} (hp : p < n) (ep : p = stB n b m) (hg : goB (b p) = true) : tp (sh_25 1 (nI p) (nI (reB n b p)) w) (fun _ w' => XKt n b (m + 1) w' ∧ Kp tkP w w' ∧ Ft (fun j => j = 5) w w') := by
  have hn := h.1
  obtain ⟨f1, f2, -, f4⟩ := ff_sp (fun i => goB (b i)) n p
  obtain ⟨e, ee⟩ : ∃ e, e = reB n b p := ⟨_, rfl⟩
  have g1 : p ≤ e := by rw [ee]; exact f1
  have g2 : e ≤ n := by rw [ee]; exact f2 (by omega)
  have g4 : ∀ x, p ≤ x → x < e → goB (b x) = true := by rw [ee]; exact f4
  have etk : tokB n b p = if cLet b p (e - p) = e - p ∧ e - p ≤ 7 then (1, lettL b p (e - p)) else if cLet b p (e - p) = 0 ∧ e - p ≤ 3 then (2, [numV b p (e - p)]) else (4, []) := by
    unfold tokB
    rw [if_pos hg, ← ee]
  rw [← ee]
  unfold sh_25
  rw [n_sub g1]
  refine tp_lt ?_
  refine tp_it (fun k s w' => w' = w ∧ p + k ≤ e ∧ ∃ v5 v7, s = (nI (cLet b p k), v5, v7, nI (p + k)) ∧ (cLet b p k = k → v5 = lN (en5 (lettL b p k))) ∧ (cLet b p k = 0 → v7 = nI (numV b p k))) (e - p) (by omega) ⟨rfl, by omega, 0, 0, rfl, fun _ => rfl, fun _ => rfl⟩ (fun k s w' hI => ?_)
  obtain ⟨ew, hke, v5, v7, es, i5, i7⟩ := hI
  subst es
  rw [ew]
  have hcl := cLet_le (b := b) p k
  refine tp_ite (fun z => ?_) (fun z => ?_)
  · have hlt := (nlt_i (by omega) (by omega)).mp z
    obtain ⟨e1, h1⟩ := x_byteAt h (show p + k < n by omega)
    have hgo := g4 (p + k) (by omega) hlt
    have ec : cLet b p (k + 1) = cLet b p k + if alB (b (p + k)) = true then 1 else 0 := rfl
    refine tp_ce e1 (tp_ce (x_letter h1) (tp_ite (fun q => ?_) (fun q => ?_)))
    · rw [if_pos q] at ec
      have q2 : 97 ≤ b (p + k) := by
        unfold alB at q
        simp at q
        omega
      rw [nI_s, nI_s]
      refine tp_lt (tp_ce (show sh_26 v5 (nI (b (p + k))) w = some (v5 * 32 + lN (b (p + k) - 96), w) from ?_) (tp_lt (tp_on ⟨by omega, rfl, by omega, _, _, by rw [ec]; rfl, fun y => ?_, fun y => by omega⟩)))
      · unfold sh_26
        rw [show (97 : Int32) = nI 97 from rfl, n_sub q2, nI_s, nI_l (by omega), show b (p + k) - 97 + 1 = b (p + k) - 96 by omega]
      · rw [i5 (by omega)]
        show lN (en5 (lettL b p k)) * lN 32 + _ = lN (en5 (lettL b p k ++ [b (p + k) - 96]))
        rw [en5_app, lN_mul, lN_add]
    · rw [if_neg q] at ec
      have q2 : 48 ≤ b (p + k) := by
        unfold goB alB dgB at hgo
        unfold alB at q
        simp at q hgo
        omega
      rw [nI_s, show (48 : Int32) = nI 48 from rfl, n_sub q2]
      refine tp_lt (tp_lt (tp_on ⟨by omega, rfl, by omega, _, _, by rw [ec]; rfl, fun y => by omega, fun y => ?_⟩))
      rw [i7 (by omega), show (10 : Int32) = nI 10 from rfl, nI_m, nI_p]; rfl
  · have hke2 : k = e - p := by
      by_cases q : p + k < e
      · exact absurd (nlt q (by omega)) z
      · omega
    subst hke2
    have fin : ∀ kd : Int32, kvX (tokB n b p) kd v7.toInt64 → tp (cl (sh_28 1 (nI p) kd v7.toInt64 w) (fun _ w23 => some ((.inr (()) : (Int32 × Int64 × Int32 × Int32) ⊕ Unit), w23))) (lpQ (fun s' w' => (e - p) < e - p ∧ w' = w ∧ p + ((e - p) + 1) ≤ e ∧ ∃ v5 v7, s' = (nI (cLet b p ((e - p) + 1)), v5, v7, nI (p + ((e - p) + 1))) ∧ (cLet b p ((e - p) + 1) = (e - p) + 1 → v5 = lN (en5 (lettL b p ((e - p) + 1)))) ∧ (cLet b p ((e - p) + 1) = 0 → v7 = nI (numV b p ((e - p) + 1)))) (fun _ w' => XKt n b (m + 1) w' ∧ Kp tkP w w' ∧ Ft (fun j => j = 5) w w')) := fun kd hkd => tp_cl (x_putTok hk hm ep hkd) (fun _ w2 h2 => tp_out h2)
    refine tp_jn ?_
    by_cases c1 : cLet b p (e - p) = e - p
    · refine tp_if (by rw [c1]) ?_
      by_cases c2 : e - p ≤ 7
      · rw [if_pos ⟨c1, c2⟩] at etk
        refine tp_if (show nI (e - p) ≤ 7 from nle (b := 7) c2 (by decide)) (tp_cl (x_wordOf v5) (fun r w2 h2 => ?_))
        obtain ⟨ew2, hr⟩ := h2
        rw [ew2]
        have e5 := i5 c1
        rcases hr with ⟨er, hno⟩ | ⟨i, hi, er, ei⟩
        · subst er
          refine tp_lt (tp_if rfl (tp_cl (x_putTok hk hm ep (show kvX (tokB n b p) (if (-1 : Int32) = -1 then 1 else 2) v5 from ?_)) (fun _ w3 h3 => tp_out h3)))
          rw [if_pos rfl, etk]
          exact Or.inl ⟨rfl, Or.inl ⟨rfl, e5, fun i hi => by rw [← e5]; exact hno i hi⟩⟩
        · subst er
          have hne : ¬ nI i = -1 := by rw [i_eq, i_nI (by omega)]; show ¬ (i : Int) = -1; omega
          refine tp_lt (tp_ifn hne (tp_cl (x_putTok hk hm ep (show kvX (tokB n b p) (if nI i = -1 then 1 else 2) (nI i).toInt64 from ?_)) (fun _ w3 h3 => tp_out h3)))
          rw [if_neg hne, etk]
          exact Or.inl ⟨rfl, Or.inr ⟨i, hi, rfl, rfl, by rw [ei]; exact e5⟩⟩
      · rw [if_neg (fun y => c2 y.2), if_neg (fun y => by omega)] at etk
        refine tp_ifn (show ¬ nI (e - p) ≤ 7 from nnle (b := 7) (by omega) (by omega)) ?_
        refine tp_lt (fin _ ?_)
        rw [if_neg (by rw [c1]; exact n_ne (b := 0) (by omega) (by omega) (by decide)), etk]
        exact Or.inr (Or.inr (Or.inr ⟨rfl, rfl⟩))
    · rw [if_neg (fun y => c1 y.1)] at etk
      refine tp_ifn (n_ne c1 (by omega) (by omega)) ?_
      refine tp_lt (fin _ ?_)
      by_cases c2 : cLet b p (e - p) = 0
      · rw [if_pos (by rw [c2]; rfl)]
        by_cases c3 : e - p ≤ 3
        · rw [if_pos ⟨c2, c3⟩] at etk
          rw [if_pos (show nI (e - p) ≤ 3 from nle (b := 3) c3 (by decide)), etk, i7 c2]
          exact Or.inr (Or.inl ⟨rfl, rfl, rfl⟩)
        · rw [if_neg (fun y => c3 y.2)] at etk
          rw [if_neg (show ¬ nI (e - p) ≤ 3 from nnle (b := 3) (by omega) (by omega)), etk]
          exact Or.inr (Or.inr (Or.inr ⟨rfl, rfl⟩))
      · rw [if_neg (fun y => c2 y.1)] at etk
        rw [if_neg (show ¬ nI (cLet b p (e - p)) = 0 from n_ne (b := 0) c2 (by omega) (by decide)), etk]
        exact Or.inr (Or.inr (Or.inr ⟨rfl, rfl⟩))
end TE
