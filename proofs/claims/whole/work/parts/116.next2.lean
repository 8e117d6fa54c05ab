section NE2
variable {n lim : Nat} {b : Nat → Nat} {w w' : Wd}
theorem cLet_all {p : Nat} : ∀ k, cLet b p k = k → ∀ i, i < k → alB (b (p + i)) = true := by
  intro k
  induction k with
  | zero => intro _ i hi; omega
  | succ k ih =>
    intro h i hi
    have hcl := cLet_le (b := b) p k
    have ec : cLet b p (k + 1) = cLet b p k + if alB (b (p + k)) = true then 1 else 0 := rfl
    rw [ec] at h
    cases y : alB (b (p + k)) with
    | false => rw [y, if_neg (by decide)] at h; omega
    | true =>
      rw [y, if_pos rfl] at h
      by_cases q : i = k
      · rw [q]; exact y
      · exact ih (by omega) i (by omega)
theorem y_sgn {c : Nat} (hc : c < 256) (hg : goB c = false) : (if nI c = 59 then 3 else if nI c = 40 then 3 else if nI c = 41 then 3 else (if 60 ≤ nI c then (if nI c ≤ 62 then 3 else 4) else 4) : Int32) = if sgB c = true then 3 else 4 := by
  have key : ∀ k : Nat, k < 256 → (nI c = nI k ↔ c = k) := fun k hk => nI_eq (by omega) (by omega)
  have k60 : ((60 : Int32) ≤ nI c ↔ 60 ≤ c) := nI_leI (a := 60) (by omega) (by omega)
  have k62 : (nI c ≤ (62 : Int32) ↔ c ≤ 62) := nI_leI (b := 62) (by omega) (by omega)
  rw [show (59 : Int32) = nI 59 from rfl, show (40 : Int32) = nI 40 from rfl, show (41 : Int32) = nI 41 from rfl]
  simp only [key 59 (by decide), key 40 (by decide), key 41 (by decide), k60, k62]
  unfold sgB
  by_cases h1 : c = 59
  · subst h1; rfl
  · by_cases h2 : c = 40
    · subst h2; rfl
    · by_cases h3 : c = 41
      · subst h3; rfl
      · rw [if_neg h1, if_neg h2, if_neg h3, decide_eq_false h2, decide_eq_false h3, Bool.or_false, Bool.or_false]
        by_cases h4 : 60 ≤ c
        · rw [if_pos h4, decide_eq_true (show 59 ≤ c by omega), Bool.true_and]
          by_cases h5 : c ≤ 62
          · rw [if_pos h5, decide_eq_true h5, if_pos rfl]
          · rw [if_neg h5, decide_eq_false h5, if_neg (by decide)]
        · rw [if_neg h4, decide_eq_false (show ¬ 59 ≤ c by omega), Bool.false_and, if_neg (by decide)]
theorem y_next (h : MB n b lim w) {p : Nat} (hp : p ≤ n) (e4 : wI w 166 4 = nI p) : tp (sh_191 166 w) (fun _ w' => NX n b lim p w' ∧ MB n b lim w' ∧ Kp (fun q => q = 166) w w' ∧ Fm nxF w w') := by
  have hn := h.1
  have hlim := h.2.1
  unfold sh_191
  refine tp_it (fun j _ w' => p + j ≤ n ∧ wI w' 166 4 = nI (p + j) ∧ skB n b p = skB n b (p + j) ∧ Kp (fun q => q = 166) w w' ∧ Fm nxF w w') 941 (by omega) ⟨hp, e4, rfl, Kp.refl, fun _ _ => rfl⟩ (fun j s w' hI => ?_)
  obtain ⟨hj, f4, hsk, hK, hF⟩ := hI
  have hM := h.fm hF hK (by unfold nxF; omega) (by unfold nxF; omega)
  refine tp_ce (y_peek hM f4 hj) ?_
  by_cases qn : p + j < n ∧ blB (b (p + j)) = true
  · obtain ⟨q1, q2⟩ := qn
    have go : tp (stI w' 166 4 ((wI w' 166 4) + 1) (fun w6 => some ((.inl () : Unit ⊕ Unit), w6))) (lpQ (fun _ w' => j < 941 ∧ p + (j + 1) ≤ n ∧ wI w' 166 4 = nI (p + (j + 1)) ∧ skB n b p = skB n b (p + (j + 1)) ∧ Kp (fun q => q = 166) w w' ∧ Fm nxF w w') (fun _ w' => NX n b lim p w' ∧ MB n b lim w' ∧ Kp (fun q => q = 166) w w' ∧ Fm nxF w w')) := by
      rw [f4, nI_s]
      refine tp_stI (tp_on ⟨by omega, by omega, wI_same, hsk.trans (ff_t (P := fun i => blB (b i)) q1 q2), hK.sI rfl _ _, fun k hk => ?_⟩)
      rw [wI_other (by unfold nxF at hk; omega)]
      exact hF k hk
    refine tp_ite (fun _ => go) (fun z1 => ?_)
    refine tp_ce (y_peek hM f4 hj) (tp_if ?_ go)
    rw [if_pos q1] at z1 ⊢
    unfold blB at q2
    by_cases y : b (p + j) = 32
    · exact absurd (by rw [y]; rfl) z1
    · rw [decide_eq_false y, Bool.false_or, decide_eq_true_eq] at q2
      rw [q2]; rfl
  · obtain ⟨q, eq⟩ : ∃ q, q = p + j := ⟨_, rfl⟩
    rw [← eq] at f4 hsk qn hj ⊢
    have hq : skB n b p = q := by
      rw [hsk]
      unfold skB
      by_cases y : q < n
      · exact ff_f (by cases z : blB (b q) with
          | false => rfl
          | true => exact absurd ⟨y, z⟩ qn)
      · exact ff_n (by omega)
    have hc : q < n → b q < 256 := fun y => (hM.2.2.2.2 q y).2
    have nb : ∀ k : Nat, k < 256 → blB k = true → ¬ (if q < n then nI (b q) else -1) = nI k := by
      intro k hk hb
      by_cases y : q < n
      · rw [if_pos y]
        refine n_ne (fun z => ?_) (by have := hc y; omega) (by omega)
        exact qn ⟨y, by rw [z]; exact hb⟩
      · rw [if_neg y, i_eq, i_nI (by omega)]
        show ¬ (-1 : Int) = k
        omega
    refine tp_ifn (nb 32 (by decide) rfl) (tp_ce (y_peek hM f4 hj) (tp_ifn (nb 10 (by decide) rfl) ?_))
    rw [f4]
    refine tp_stI (tp_stI ?_)
    obtain ⟨w2, ew2⟩ : ∃ w2, w2 = sI (sI w' 166 12 (nI q)) 166 13 0 := ⟨_, rfl⟩
    rw [← ew2]
    have hK2 : Kp (fun q => q = 166) w w2 := by rw [ew2]; exact (hK.sI rfl _ _).sI rfl _ _
    have hF2 : Fm nxF w w2 := fun k hk => by
      rw [ew2, wI_other (by unfold nxF at hk; omega), wI_other (by unfold nxF at hk; omega)]; exact hF k hk
    have g4 : wI w2 166 4 = nI q := by rw [ew2, wI_other (by decide), wI_other (by decide)]; exact f4
    have g12 : wI w2 166 12 = nI q := by rw [ew2, wI_other (by decide), wI_same]
    have g13 : wI w2 166 13 = nI 0 := by rw [ew2, wI_same]; rfl
    have hM2 := h.fm hF2 hK2 (by unfold nxF; omega) (by unfold nxF; omega)
    clear ew2
    refine tp_jnP (fun _ w3 => w3 = w2 ∧ ¬ (lim < n ∧ lim ≤ q)) (fun j13 hj13 => ?_) (fun _ w3 h3 => ?_)
    · rw [hM2.2.2.1, hM2.2.2.2.1, g4]
      refine tp_ite (fun z1 => ?_) (fun z1 => ?_)
      · have y1 := (nlt_i (by omega) (by omega)).mp z1
        refine tp_ite (fun z2 => ?_) (fun z2 => ?_)
        · have y2 := (nI_leI (by omega) (by omega)).mp z2
          refine tp_stI (tp_stI (tp_out ⟨Or.inr ⟨by omega, ?_, ?_, ?_⟩, h.fm (P := nxF) (fun k hk => ?_) ((hK2.sI rfl _ _).sI rfl _ _) (by unfold nxF; omega) (by unfold nxF; omega), (hK2.sI rfl _ _).sI rfl _ _, fun k hk => ?_⟩))
          · rw [wI_other (by decide), wI_same, Nat.min_eq_right (by omega)]
          · rw [wI_other (by decide), wI_other (by decide), hq]; exact g4
          · rw [wI_same, if_pos y1]
          · rw [wI_other (by unfold nxF at hk; omega), wI_other (by unfold nxF at hk; omega)]; exact hF2 k hk
          · rw [wI_other (by unfold nxF at hk; omega), wI_other (by unfold nxF at hk; omega)]; exact hF2 k hk
        · exact hj13 () w2 ⟨rfl, fun y => z2 (nle y.2 (by omega))⟩
      · exact hj13 () w2 ⟨rfl, fun y => z1 (nlt y.1 (by omega))⟩
    · obtain ⟨ew3, hnl⟩ := h3
      rw [ew3]
      refine tp_ce (y_peek hM2 g4 hj) ?_
      by_cases qn2 : q < n
      · have hc2 := hc qn2
        have hr : q < min n lim := by omega
        rw [if_pos qn2]
        refine tp_ifn (show ¬ nI (b q) < nI 0 from nnlt (by omega) (by omega)) (tp_ce (y_small hc2) ?_)
        refine tp_jnP (fun _ w3 => w3 = w2 ∧ goB (b q) = true) (fun j21 hj21 => ?_) (fun _ w3 h3 => ?_)
        · refine tp_ite (fun z => ?_) (fun z => ?_)
          · exact hj21 () w2 ⟨rfl, by unfold goB; rw [z]; rfl⟩
          · refine tp_ce (y_digit hc2) (tp_ite (fun z2 => ?_) (fun z2 => ?_))
            · exact hj21 () w2 ⟨rfl, by unfold goB; rw [z2, Bool.or_true]⟩
            · have hg : goB (b q) = false := by
                unfold goB
                cases y : alB (b q) with
                | true => exact absurd y z
                | false =>
                  cases y2 : dgB (b q) with
                  | true => exact absurd y2 z2
                  | false => rfl
              rw [y_sgn hc2 hg]
              refine tp_lt (tp_stI (tp_stI ?_))
              rw [wI_other (by decide), wI_other (by decide), g4, nI_s]
              refine tp_stI (tp_out ?_)
              have hKx : Kp (fun q => q = 166) w (sI (sI (sI w2 166 11 (if sgB (b q) = true then 3 else 4)) 166 14 (nI (b q))) 166 4 (nI (q + 1))) := ((hK2.sI rfl _ _).sI rfl _ _).sI rfl _ _
              have hFx : Fm nxF w (sI (sI (sI w2 166 11 (if sgB (b q) = true then 3 else 4)) 166 14 (nI (b q))) 166 4 (nI (q + 1))) := fun k hk => by
                rw [wI_other (by unfold nxF at hk; omega), wI_other (by unfold nxF at hk; omega), wI_other (by unfold nxF at hk; omega)]; exact hF2 k hk
              refine ⟨Or.inl ⟨by rw [hq]; exact hr, ?_, ?_, ?_⟩, h.fm hFx hKx (by unfold nxF; omega) (by unfold nxF; omega), hKx, hFx⟩
              · rw [wI_other (by decide), wI_other (by decide), wI_other (by decide), hq]; exact g12
              · rw [wI_same, hq]
                unfold endB
                rw [if_neg (by rw [hg]; decide)]
              · rw [wI_other (by decide), wI_other (by decide), wI_same, wI_other (by decide), wI_same, hq]
                unfold tokB
                rw [if_neg (by rw [hg]; decide)]
                by_cases y : sgB (b q) = true
                · rw [if_pos y, if_pos y]
                  exact Or.inr (Or.inr (Or.inl ⟨rfl, rfl, rfl⟩))
                · rw [if_neg y, if_neg y]
                  exact Or.inr (Or.inr (Or.inr ⟨rfl, rfl⟩))
        · obtain ⟨ew3, hg⟩ := h3
          rw [ew3]
          obtain ⟨e, ee⟩ : ∃ e, e = reB n b q := ⟨_, rfl⟩
          obtain ⟨r1, r2, r3, r4⟩ := ff_sp (fun i => goB (b i)) n q
          have e1 : q < e := by
            rw [ee]; unfold reB; rw [ff_t qn2 hg]
            have := (ff_sp (fun i => goB (b i)) n (q + 1)).1
            omega
          have e2 : e ≤ n := by rw [ee]; exact r2 hj
          have e3 : e < n → goB (b e) = false := by rw [ee]; exact r3
          have e4' : ∀ x, q ≤ x → x < e → goB (b x) = true := by rw [ee]; exact r4
          refine tp_ce (y_small hc2) (tp_stL (tp_stI ?_))
          obtain ⟨w3, ew3⟩ : ∃ w3, w3 = sI (sL w2 166 17 0) 166 14 0 := ⟨_, rfl⟩
          rw [← ew3]
          have hK3 : Kp (fun q => q = 166) w w3 := by rw [ew3]; exact (hK2.sL rfl _ _).sI rfl _ _
          have hF3 : Fm nxF w w3 := fun k hk => by
            rw [ew3, wI_other (by unfold nxF at hk; omega), wI_sL]; exact hF2 k hk
          have i4 : wI w3 166 4 = nI q := by rw [ew3, wI_other (by decide), wI_sL]; exact g4
          have i12 : wI w3 166 12 = nI q := by rw [ew3, wI_other (by decide), wI_sL]; exact g12
          have i13 : wI w3 166 13 = nI 0 := by rw [ew3, wI_other (by decide), wI_sL]; exact g13
          have i14 : wI w3 166 14 = nI 0 := by rw [ew3, wI_same]; rfl
          have i17 : wL w3 166 17 = lN 0 := by rw [ew3, wL_sI', wL_up, if_pos rfl]; rfl
          clear ew3
          refine tp_it (fun k v w4 => q + k ≤ e ∧ v = bi (decide (cLet b q k = if alB (b q) = true then k else 0)) ∧ wI w4 166 13 = nI k ∧ wI w4 166 4 = nI (q + k) ∧ (cLet b q k = k → k ≤ 7 → wL w4 166 17 = lN (en8 (lettL b q k))) ∧ (cLet b q k = 0 → k ≤ 3 → wI w4 166 14 = nI (numV b q k)) ∧ wI w4 166 12 = nI q ∧ Kp (fun q => q = 166) w w4 ∧ Fm nxF w w4) 941 (by omega) ⟨by omega, ?_, i13, i4, fun _ _ => i17, fun _ _ => i14, i12, hK3, hF3⟩ (fun k v w4 hI => ?_)
          · show (1 : Int32) = bi (decide (0 = if alB (b q) = true then 0 else 0))
            rw [ite_self]; rfl
          obtain ⟨hk, ev, k13, k4, k17, k14, k12, hK4, hF4⟩ := hI
          subst ev
          have hM4 := h.fm hF4 hK4 (by unfold nxF; omega) (by unfold nxF; omega)
          refine tp_ce (y_peek hM4 k4 (by omega)) ?_
          by_cases hx : q + k < e
          · have hx2 : q + k < n := by omega
            have hcx := hc
            have hb := (hM4.2.2.2.2 (q + k) hx2).2
            have hgo := e4' (q + k) (by omega) hx
            have ec : cLet b q (k + 1) = cLet b q k + if alB (b (q + k)) = true then 1 else 0 := rfl
            have hcl := cLet_le (b := b) q k
            rw [if_pos hx2]
            refine tp_ce (y_small hb) ?_
            refine tp_jnP (fun _ w5 => w5 = w4) (fun j34 hj34 => ?_) (fun _ w5 h5 => ?_)
            · refine tp_ite (fun _ => hj34 () w4 rfl) (fun z => ?_)
              refine tp_ce (y_peek hM4 k4 (by omega)) ?_
              rw [if_pos hx2]
              refine tp_ce (y_digit hb) (tp_if ?_ (hj34 () w4 rfl))
              unfold goB at hgo
              cases y : alB (b (q + k)) with
              | true => exact absurd y z
              | false => rw [y] at hgo; exact hgo
            · rw [h5]
              refine tp_jnP (fun t w6 => w6 = w4 ∧ t = decide (cLet b q (k + 1) = if alB (b q) = true then k + 1 else 0)) (fun j36 hj36 => ?_) (fun t w6 h6 => ?_)
              · refine tp_jnP (fun _ w7 => w7 = w4 ∧ ¬ cLet b q (k + 1) = if alB (b q) = true then k + 1 else 0) (fun j54 hj54 => ?_) (fun _ w7 h7 => hj36 false w7 ⟨h7.1, (decide_eq_false h7.2).symm⟩)
                by_cases y : cLet b q k = if alB (b q) = true then k else 0
                · rw [decide_eq_true y]
                  refine tp_ifn (by decide) (tp_ce (y_peek hM4 k4 (by omega)) ?_)
                  rw [if_pos hx2]
                  refine tp_ce (y_small hb) ?_
                  have nx : (cLet b q (k + 1) = if alB (b q) = true then k + 1 else 0) ↔ alB (b (q + k)) = alB (b q) := by
                    rw [ec, y]
                    cases alB (b q) <;> cases alB (b (q + k)) <;> simp
                  refine tp_ite (fun z => ?_) (fun z => ?_)
                  · refine hj36 true w4 ⟨rfl, (decide_eq_true (nx.mpr ?_)).symm⟩
                    cases y1 : alB (b (q + k)) <;> cases y2 : alB (b q) <;> rw [y1, y2] at z <;> first | rfl | exact absurd z (by decide)
                  · refine hj54 () w4 ⟨rfl, fun x => z ?_⟩
                    rw [nx.mp x]
                · rw [decide_eq_false y]
                  refine tp_if (by decide) (hj54 () w4 ⟨rfl, fun x => y ?_⟩)
                  rw [ec] at x
                  by_cases y2 : alB (b q) = true
                  · rw [if_pos y2] at x ⊢
                    split at x <;> omega
                  · rw [if_neg y2] at x ⊢
                    omega
              · obtain ⟨ew6, et⟩ := h6
                rw [ew6, et]
                refine tp_jnP (fun _ w7 => wI w7 = wI w4 ∧ Kp (fun q => q = 166) w w7 ∧ (cLet b q (k + 1) = k + 1 → k + 1 ≤ 7 → wL w7 166 17 = lN (en8 (lettL b q (k + 1))))) (fun j39 hj39 => ?_) (fun _ w7 h7 => ?_)
                · rw [k13]
                  refine tp_ite (fun z => ?_) (fun z => ?_)
                  · have hk7 : k < 7 := (nlt_i (by omega) (by decide)).mp (show nI k < nI 7 from z)
                    refine tp_ce (y_peek hM4 k4 (by omega)) ?_
                    rw [if_pos hx2]
                    refine tp_stL (hj39 () _ ⟨rfl, hK4.sL rfl _ _, fun y _ => ?_⟩)
                    rw [wL_up, if_pos rfl]
                    have yk : cLet b q k = k := by
                      rw [ec] at y
                      split at y <;> omega
                    have ya : ∀ i, i < k + 1 → 97 ≤ b (q + i) ∧ b (q + i) < 256 := by
                      intro i hi
                      refine ⟨?_, (hM4.2.2.2.2 (q + i) (by omega)).2⟩
                      have := cLet_all (b := b) (k + 1) y i hi
                      unfold alB at this
                      simp at this
                      omega
                    have hl : en8 (lettL b q k) < 256 ^ k := en8_lt k (fun i hi => ya i (by omega))
                    have hl2 : (256 : Nat) ^ k ≤ 256 ^ 6 := Nat.pow_le_pow_right (by decide) (by omega)
                    have hyk := ya k (by omega)
                    have h48 : (256 : Nat) ^ 6 = 2 ^ 48 := by decide
                    have hl3 : en8 (lettL b q k) < 2 ^ 48 := by omega
                    rw [k17 yk (by omega), nI_l (by omega), l_or hl3 hyk.2]
                    show _ = lN (en8 (lettL b q k ++ [b (q + k) - 96]))
                    rw [en8_app, show b (q + k) - 96 + 96 = b (q + k) by omega]
                  · exact hj39 () w4 ⟨rfl, hK4, fun y y7 => absurd (show nI k < 7 from nlt (b := 7) (by omega) (by decide)) z⟩
                · obtain ⟨ewI, hK7, k17'⟩ := h7
                  rw [ewI, k13]
                  have hF7 : Fm nxF w w7 := fun j hj => by rw [ewI]; exact hF4 j hj
                  have hM7 := h.fm hF7 hK7 (by unfold nxF; omega) (by unfold nxF; omega)
                  refine tp_ite (fun z => ?_) (fun z => ?_)
                  · refine tp_ce (y_peek hM7 (by rw [ewI]; exact k4) (by omega)) ?_
                    rw [if_pos hx2]
                    refine tp_stI ?_
                    rw [wI_other (by decide), ewI, k13, nI_s]
                    refine tp_stI ?_
                    rw [wI_other (by decide), wI_other (by decide), ewI, k4, nI_s]
                    refine tp_stI (tp_on ⟨by omega, by omega, rfl, by rw [wI_other (by decide), wI_same], wI_same, fun y y7 => by rw [wL_sI', wL_sI', wL_sI']; exact k17' y y7, fun y y3 => ?_, by rw [wI_other (by decide), wI_other (by decide), wI_other (by decide), ewI]; exact k12, ((hK7.sI rfl _ _).sI rfl _ _).sI rfl _ _, fun j hj => ?_⟩)
                    · rw [wI_other (by decide), wI_other (by decide), wI_same, k14 (by omega) (by omega)]
                      have q2 : 48 ≤ b (q + k) := by
                        have y9 : alB (b (q + k)) = false := by
                          cases y8 : alB (b (q + k)) with
                          | false => rfl
                          | true => rw [y8, if_pos rfl] at ec; omega
                        unfold goB dgB at hgo
                        rw [y9, Bool.false_or] at hgo
                        simp at hgo
                        omega
                      show (10 : Int32) * nI (numV b q k) + nI (b (q + k)) - nI 48 = nI (numV b q k * 10 + (b (q + k) - 48))
                      rw [show (10 : Int32) = nI 10 from rfl, nI_m, nI_p, n_sub (by omega)]
                      congr 1
                      omega
                    · rw [wI_other (by unfold nxF at hj; omega), wI_other (by unfold nxF at hj; omega), wI_other (by unfold nxF at hj; omega)]; exact hF7 j hj
                  · rw [nI_s]
                    refine tp_stI ?_
                    rw [wI_other (by decide), ewI, k4, nI_s]
                    refine tp_stI (tp_on ⟨by omega, by omega, rfl, by rw [wI_other (by decide), wI_same], wI_same, fun y y7 => by rw [wL_sI', wL_sI']; exact k17' y y7, fun y y3 => absurd (show nI k < 3 from nlt (b := 3) (by omega) (by decide)) z, by rw [wI_other (by decide), wI_other (by decide), ewI]; exact k12, (hK7.sI rfl _ _).sI rfl _ _, fun j hj => ?_⟩)
                    rw [wI_other (by unfold nxF at hj; omega), wI_other (by unfold nxF at hj; omega)]; exact hF7 j hj
          · have hxe : q + k = e := by omega
            have hk0 : ∃ k', k = k' + 1 := ⟨k - 1, by omega⟩
            have ns : sh_193 (if q + k < n then nI (b (q + k)) else -1) w4 = some (false, w4) ∧ sh_194 (if q + k < n then nI (b (q + k)) else -1) w4 = some (false, w4) := by
              by_cases y : q + k < n
              · rw [if_pos y]
                have y2 := e3 (by omega)
                have hb := (hM4.2.2.2.2 (q + k) y).2
                unfold goB at y2
                rw [← hxe] at y2
                rw [y_small hb, y_digit hb]
                cases y3 : alB (b (q + k)) with
                | true => rw [y3] at y2; cases y2
                | false =>
                  rw [y3, Bool.false_or] at y2
                  rw [y2]
                  exact ⟨rfl, rfl⟩
              · rw [if_neg y]
                exact ⟨y_small1, y_digit1⟩
            have hKx : ∀ kd, Kp (fun q => q = 166) w (sI w4 166 11 kd) := fun kd => hK4.sI rfl _ _
            have hFx : ∀ kd, Fm nxF w (sI w4 166 11 kd) := fun kd j hj => by
              rw [wI_other (by unfold nxF at hj; omega)]; exact hF4 j hj
            have etk : tokB n b q = if cLet b q k = k ∧ k ≤ 7 then (1, lettL b q k) else if cLet b q k = 0 ∧ k ≤ 3 then (2, [numV b q k]) else (4, []) := by
              unfold tokB
              rw [if_pos hg, ← ee, show e - q = k by omega]
            refine tp_ce ns.1 (tp_jnP (fun _ _ => False) (fun j34 hj34 => ?_) (fun _ _ hf => absurd hf id))
            refine tp_ifn (by decide) (tp_ce (y_peek hM4 k4 (by omega)) (tp_ce ns.2 (tp_ifn (by decide) (tp_lt (tp_stI (tp_oout ⟨Or.inl ⟨by rw [hq]; exact hr, ?_, ?_, ?_⟩, h.fm (hFx _) (hKx _) (by unfold nxF; omega) (by unfold nxF; omega), hKx _, hFx _⟩))))))
            · rw [wI_other (by decide), hq]; exact k12
            · rw [wI_other (by decide), hq, k4]
              unfold endB
              rw [if_pos hg, ← ee, hxe]
            · rw [wI_same, wI_other (by decide), wL_sI', hq, k13, etk]
              obtain ⟨k', ek⟩ := hk0
              have b4 : kvM (4, []) 4 (wI w4 166 14) (wL w4 166 17) := Or.inr (Or.inr (Or.inr ⟨rfl, rfl⟩))
              by_cases ha : alB (b q) = true
              · have hc1 := cLet_pos ha k'
                rw [← ek] at hc1
                simp only [if_pos ha]
                by_cases y : cLet b q k = k
                · rw [decide_eq_true y, if_neg (show ¬ bi true = 0 by decide)]
                  by_cases y2 : k ≤ 7
                  · rw [if_neg (show ¬ (7 : Int32) < nI k from nnlt (a := 7) y2 (by decide)), if_pos ⟨y, y2⟩]
                    exact Or.inl ⟨rfl, rfl, k17 y y2⟩
                  · rw [if_pos (show (7 : Int32) < nI k from nlt (a := 7) (by omega) (by omega)), if_neg (fun z => y2 z.2), if_neg (fun z => by omega)]
                    exact b4
                · rw [decide_eq_false y, if_pos (show bi false = 0 by decide), if_neg (fun z => y z.1), if_neg (fun z => by omega)]
                  exact b4
              · have hc1 := cLet_lt ha k'
                rw [← ek] at hc1
                simp only [if_neg ha]
                by_cases y : cLet b q k = 0
                · rw [decide_eq_true y, if_neg (show ¬ bi true = 0 by decide)]
                  by_cases y2 : k ≤ 3
                  · rw [if_neg (show ¬ (3 : Int32) < nI k from nnlt (a := 3) y2 (by decide)), if_neg (fun z => by omega), if_pos ⟨y, y2⟩]
                    exact Or.inr (Or.inl ⟨rfl, rfl, k14 y y2⟩)
                  · rw [if_pos (show (3 : Int32) < nI k from nlt (a := 3) (by omega) (by omega)), if_neg (fun z => by omega), if_neg (fun z => y2 z.2)]
                    exact b4
                · rw [decide_eq_false y, if_pos (show bi false = 0 by decide), if_neg (fun z => by omega), if_neg (fun z => y z.1)]
                  exact b4
      · have eqn : q = n := by omega
        rw [if_neg qn2]
        refine tp_if (by decide) (tp_stI (tp_out ?_))
        have hKx : Kp (fun q => q = 166) w (sI w2 166 11 0) := hK2.sI rfl _ _
        have hFx : Fm nxF w (sI w2 166 11 0) := fun k hk => by
          rw [wI_other (by unfold nxF at hk; omega)]; exact hF2 k hk
        refine ⟨Or.inr ⟨by omega, ?_, ?_, ?_⟩, h.fm hFx hKx (by unfold nxF; omega) (by unfold nxF; omega), hKx, hFx⟩
        · rw [wI_other (by decide), g12, show min n lim = q by omega]
        · rw [wI_other (by decide), hq]; exact g4
        · rw [wI_same, if_neg (by omega)]
end NE2
