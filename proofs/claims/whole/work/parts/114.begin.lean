/-! the class tells all TOKENS -/
def XTs (n : Nat) (b : Nat → Nat) (r m : Nat) (w : Wd) : Prop := wI w 1 5 = nI (m + 1) ∧ m ≤ 940 ∧ r ≤ 940 ∧ TM n b r m ∧ (∀ i, i < m → wI w 3 i = nI (stB n b i) ∧ kvX (tokB n b (stB n b i)) (wI w 4 i) (wL w 5 i)) ∧ wI w 3 m = nI r ∧ wI w 4 m = 0
section BG2
variable {n m : Nat} {b : Nat → Nat} {w w' : Wd}
theorem XT.kp (h : XT n b w) (hK : Kp tkP w w') (hF : Ft (fun j => j = 5) w w') : XT n b w' := by
  obtain ⟨h1, h2, h3⟩ := h
  refine ⟨h1, by rw [hF 1 (by decide)]; exact h2, fun j hj => ?_⟩
  rw [hK.I (by unfold tkP; omega)]
  exact h3 j hj
theorem x_isSign {c : Nat} (hc : c < 256) : sh_29 (nI c) w = some (sgB c, w) := by
  have key : ∀ k : Nat, k < 256 → (nI c = nI k ↔ c = k) := fun k hk => nI_eq (by omega) (by omega)
  unfold sh_29 lt sgB
  rw [show (59 : Int32) = nI 59 from rfl, show (60 : Int32) = nI 60 from rfl, show (61 : Int32) = nI 61 from rfl, show (62 : Int32) = nI 62 from rfl, show (40 : Int32) = nI 40 from rfl, show (41 : Int32) = nI 41 from rfl]
  simp only [key 59 (by decide), key 60 (by decide), key 61 (by decide), key 62 (by decide), key 40 (by decide), key 41 (by decide)]
  congr 2
  by_cases h1 : c = 59
  · subst h1; rfl
  · by_cases h2 : c = 60
    · subst h2; rfl
    · by_cases h3 : c = 61
      · subst h3; rfl
      · by_cases h4 : c = 62
        · subst h4; rfl
        · by_cases h5 : c = 40
          · subst h5; rfl
          · by_cases h6 : c = 41
            · subst h6; rfl
            · rw [if_neg h1, if_neg h2, if_neg h3, if_neg h4, if_neg h5, if_neg h6]
              have : ¬ (59 ≤ c ∧ c ≤ 62) := fun y => by omega
              rw [← Bool.decide_and, decide_eq_false this, decide_eq_false h5, decide_eq_false h6]; rfl
theorem x_tell_bl (h : XT n b w) {p : Nat} (hp : p < n) (hb : blB (b p) = true) : sh_20 1 (nI p) w = some (nI (p + 1), w) := by
  obtain ⟨e1, h1⟩ := x_byteAt h hp
  have hg : goB (b p) = false := by
    cases q : goB (b p) with
    | false => rfl
    | true => rw [goB_nb q] at hb; cases hb
  unfold sh_20
  rw [cl_e e1, cl_e (x_goesOn h1), hg, if_neg (by decide), nI_s]
  unfold blB at hb
  by_cases q : b p = 32
  · rw [if_pos (show nI (b p) = 32 by rw [q]; rfl)]
  · rw [decide_eq_false q, Bool.false_or, decide_eq_true_eq] at hb
    rw [if_neg (show ¬ nI (b p) = 32 from n_ne (b := 32) q (by omega) (by decide)), if_pos (show nI (b p) = 10 by rw [hb]; rfl)]
theorem x_tell (h : XT n b w) (hk : XKt n b m w) (hm : m ≤ 940) {p : Nat} (hp : p < n) (ep : p = stB n b m) (hb : blB (b p) = false) : tp (sh_20 1 (nI p) w) (fun v w' => v = nI (endB n b p) ∧ XKt n b (m + 1) w' ∧ Kp tkP w w' ∧ Ft (fun j => j = 5) w w') := by
  obtain ⟨e1, h1⟩ := x_byteAt h hp
  unfold sh_20
  refine tp_ce e1 (tp_ce (x_goesOn h1) (tp_ite (fun hg => ?_) (fun hg => ?_)))
  · refine tp_ce (x_endOfRun h hp hg) (tp_cl (x_putRun h hk hm hp ep hg) (fun _ w1 h1 => tp_some ⟨?_, h1⟩))
    unfold endB
    rw [if_pos hg]
  · have n32 : ¬ b p = 32 := fun y => by rw [y] at hb; cases hb
    have n10 : ¬ b p = 10 := fun y => by rw [y] at hb; cases hb
    refine tp_ifn (show ¬ nI (b p) = 32 from n_ne (b := 32) n32 (by omega) (by decide)) (tp_ifn (show ¬ nI (b p) = 10 from n_ne (b := 10) n10 (by omega) (by decide)) (tp_ce (x_isSign h1) (tp_lt (tp_cl (x_putTok hk hm ep ?_) (fun _ w1 h1 => tp_some ⟨?_, h1⟩)))))
    · unfold tokB
      rw [if_neg hg]
      by_cases q : sgB (b p) = true
      · rw [if_pos q, if_pos q]
        exact Or.inr (Or.inr (Or.inl ⟨rfl, rfl, rfl⟩))
      · rw [if_neg q, if_neg q]
        exact Or.inr (Or.inr (Or.inr ⟨rfl, rfl⟩))
    · unfold endB
      rw [if_neg hg, nI_s]
theorem x_begin (h : XT n b w) {lim : Nat} (hl : lim ≤ 940) : tp (sh_18 1 (nI lim) w) (fun _ w' => ∃ m, XTs n b (min n lim) m w' ∧ wI w' 1 4 = bi (decide (lim < n)) ∧ wI w' 1 2 = 0 ∧ wI w' 1 3 = 0 ∧ wI w' 1 6 = 0 ∧ Kp tkP w w' ∧ wI w' 1 1 = nI n ∧ wI w' 1 0 = wI w 1 0) := by
  have hn := h.1
  unfold sh_18
  rw [h.2.1]
  refine tp_ce (x_min w (by omega) (by omega)) ?_
  rw [h.2.1]
  refine tp_lt (tp_stI (tp_stI (tp_stI (tp_stI (tp_stI ?_)))))
  obtain ⟨w0, ew0⟩ : ∃ w0, w0 = sI (sI (sI (sI (sI w 1 4 (bi (if nI lim < nI n then true else false))) 1 2 0) 1 3 0) 1 6 0) 1 5 0 := ⟨_, rfl⟩
  rw [← ew0]
  have hKa : Kp tkP w w0 := by
    rw [ew0]
    exact ((((kp0 (P := tkP) (Or.inl rfl)).sI (Or.inl rfl) _ _).sI (Or.inl rfl) _ _).sI (Or.inl rfl) _ _).sI (Or.inl rfl) _ _
  have a0 : wI w0 1 0 = wI w 1 0 := by rw [ew0, wI_other (by decide), wI_other (by decide), wI_other (by decide), wI_other (by decide), wI_other (by decide)]
  have a1 : wI w0 1 1 = nI n := by rw [ew0, wI_other (by decide), wI_other (by decide), wI_other (by decide), wI_other (by decide), wI_other (by decide)]; exact h.2.1
  have a2 : wI w0 1 2 = 0 := by rw [ew0, wI_other (by decide), wI_other (by decide), wI_other (by decide), wI_same]
  have a3 : wI w0 1 3 = 0 := by rw [ew0, wI_other (by decide), wI_other (by decide), wI_same]
  have a4 : wI w0 1 4 = bi (decide (lim < n)) := by
    rw [ew0, wI_other (by decide), wI_other (by decide), wI_other (by decide), wI_other (by decide), wI_same]
    by_cases q : lim < n
    · rw [if_pos (nlt q (by omega)), decide_eq_true q]
    · rw [if_neg (nnlt (by omega) (by omega)), decide_eq_false q]
  have a5 : wI w0 1 5 = nI 0 := by rw [ew0, wI_same]; rfl
  have a6 : wI w0 1 6 = 0 := by rw [ew0, wI_other (by decide), wI_same]
  have hX0 : XT n b w0 := ⟨hn, a1, fun j hj => by rw [hKa.I (by unfold tkP; omega)]; exact h.2.2 j hj⟩
  clear ew0
  obtain ⟨r, er⟩ : ∃ r, r = min n lim := ⟨_, rfl⟩
  rw [← er]
  have hr : r ≤ n ∧ r ≤ 940 := by omega
  refine tp_it (fun j s w' => ∃ e m, s = (nI e, nI j) ∧ j ≤ r ∧ e ≤ n ∧ m ≤ j ∧ XKt n b m w' ∧ (∀ i, i < m → stB n b i < j) ∧ ((e ≤ j ∧ stB n b m = skB n b j) ∨ (j < e ∧ stB n b m = skB n b e)) ∧ Kp tkP w0 w' ∧ Ft (fun j => j = 5) w0 w') 940 (by omega) ⟨0, 0, rfl, by omega, by omega, by omega, ⟨a5, fun i hi => by omega⟩, fun i hi => by omega, Or.inl ⟨by omega, rfl⟩, Kp.refl, fun _ _ => rfl⟩ (fun j s w' hI => ?_)
  obtain ⟨e, m, es, hj, he, hm, hk, hlt, hst, hK, hF⟩ := hI
  subst es
  have hX := hX0.kp hK hF
  refine tp_ite (fun z => ?_) (fun z => ?_)
  · have hj2 : j < r := (nlt_i (by omega) (by omega)).mp z
    refine tp_ite (fun z2 => ?_) (fun z2 => ?_)
    · have he2 : e ≤ j := by
        by_cases q : e ≤ j
        · exact q
        · exact absurd z2 (nnle (by omega) (by omega))
      have hst2 : stB n b m = skB n b j := by
        rcases hst with q | q
        · exact q.2
        · omega
      cases hb : blB (b j) with
      | true =>
        refine tp_ce (x_tell_bl hX (by omega) hb) ?_
        rw [nI_s]
        exact tp_lt (tp_on ⟨by omega, j + 1, m, rfl, by omega, by omega, by omega, hk, fun i hi => by have := hlt i hi; omega, Or.inl ⟨Nat.le_refl _, hst2.trans (ff_t (P := fun i => blB (b i)) (by omega) hb)⟩, hK, hF⟩)
      | false =>
        have ej : stB n b m = j := hst2.trans (ff_f (P := fun i => blB (b i)) hb)
        have hg := endB_gt (b := b) (show j < n by omega)
        refine tp_cl (x_tell hX hk (by omega) (by omega) ej.symm hb) (fun v w2 h2 => ?_)
        obtain ⟨ev, hk2, hK2, hF2⟩ := h2
        subst ev
        rw [nI_s]
        refine tp_lt (tp_on ⟨by omega, endB n b j, m + 1, rfl, by omega, hg.2, by omega, hk2, fun i hi => ?_, ?_, hK.trans hK2, fun q hq => by rw [hF2 q hq]; exact hF q hq⟩)
        · by_cases y : i = m
          · rw [y, ej]; omega
          · have := hlt i (by omega); omega
        · have es2 : stB n b (m + 1) = skB n b (endB n b j) := by
            show skB n b (endB n b (stB n b m)) = _
            rw [ej]
          by_cases y : endB n b j ≤ j + 1
          · left
            refine ⟨y, ?_⟩
            rw [es2, show endB n b j = j + 1 by omega]
          · right
            exact ⟨by omega, es2⟩
    · have he2 : j < e := by
        by_cases q : e ≤ j
        · exact absurd (nle q (by omega)) z2
        · omega
      rw [nI_s]
      refine tp_lt (tp_on ⟨by omega, e, m, rfl, by omega, he, by omega, hk, fun i hi => by have := hlt i hi; omega, ?_, hK, hF⟩)
      rcases hst with q | q
      · omega
      · by_cases y : e ≤ j + 1
        · left
          exact ⟨y, by rw [q.2, show e = j + 1 by omega]⟩
        · right
          exact ⟨by omega, q.2⟩
  · have hj2 : j = r := by
      by_cases q : j < r
      · exact absurd (nlt q (by omega)) z
      · omega
    subst hj2
    have hge : j ≤ stB n b m := by
      rcases hst with q | q
      · rw [q.2]; exact (ff_sp _ n j).1
      · rw [q.2]
        have := (ff_sp (fun i => blB (b i)) n e).1
        unfold skB
        omega
    refine tp_cl (x_put28 hk.1 (by omega) _ _ _) (fun _ w2 h2 => ?_)
    obtain ⟨b5, b3, b4, bL, hK2, hF2⟩ := h2
    have f2 : ∀ k, ¬ k = 5 → wI w2 1 k = wI w0 1 k := fun k hk => by rw [hF2 k hk]; exact hF k hk
    refine tp_out ⟨m, ⟨b5, by omega, by omega, ⟨hlt, hge⟩, fun i hi => ?_, ?_, ?_⟩, by rw [f2 4 (by decide)]; exact a4, by rw [f2 2 (by decide)]; exact a2, by rw [f2 3 (by decide)]; exact a3, by rw [f2 6 (by decide)]; exact a6, (hKa.trans hK).trans hK2, by rw [f2 1 (by decide)]; exact a1, by rw [f2 0 (by decide)]; exact a0⟩
    · rw [b3, b4, bL, if_neg (by omega), if_neg (by omega), if_neg (by omega)]
      exact hk.2 i hi
    · rw [b3, if_pos rfl]
    · rw [b4, if_pos rfl]
end BG2
