/-! a ONE: not, a bracket -/
section ON
variable {S : Nat → Int32} {s a P n lim m i c d on T wi : Nat} {wh : Bool} {g : Nat → List Nat} {b : Nat → Nat} {w w' w1 w2 v1 v2 : Wd}
variable {f160 f162 : Nat → Nat → Nat → Int32 → Wd → Option (Bool × Wd)} {r2 r4 : Bool} {r6 : Int32}
theorem SEM.push (h : SEM S s a P g n b lim m false T wi c d on i v1 w) (ha : a = 7 ∨ a = 17) (hs : s = 27 ∨ s = 31) {z : Int32} (p186 : wI w' 186 = up (wI w 186) T z) (p48 : wI w' 166 48 = nI (T + 1)) (p49 : wI w' 166 49 = nI (wi + 2)) (pf : ∀ j, ¬ j = 48 → ¬ j = 49 → wI w' 166 j = wI w 166 j) (pk : Kp (fun q => q = 166 ∨ q = 186) w w') (pL : wL w' = wL w) : SEM S s a P g n b lim m false (T + 1) (wi + 1) c d on i v1 w' ∧ SY w w' := by
  obtain ⟨hX, hY, hx, hy, h20, hd, hst, hen⟩ := h
  have sy : SY w w' := ⟨pk.mono (fun q y => by omega), fun j hj => pf j (fun q => hj (by unfold syF; omega)) (fun q => hj (by unfold syF; omega))⟩
  refine ⟨⟨hX, hY.g (fun j hj => pf j (by omega) (by omega)) pL (pk.I (by decide)), hx, ⟨?_, ?_, p48, p49, ?_⟩, h20, hd, hst.same rfl rfl rfl (pk.I (by decide)), hen.kp ha hs SX.refl sy⟩, sy⟩
  · rw [pf 46 (by decide) (by decide)]; exact hy.1
  · rw [pf 47 (by decide) (by decide)]; exact hy.2.1
  · rw [pf 50 (by decide) (by decide)]; exact hy.2.2.2.2
theorem SEM.popped {T1 wi1 d2 : Nat} {x dp ca cb cn : Int32} (h : SEM S s a P g n b lim m true T1 wi1 c d on i v1 w) (ha : a = 7 ∨ a = 17) (hs : s = 27 ∨ s = 31) (hp : PopR T c x dp w w') (hdp : dp = nI (wi + 1)) (hput : Kp (fun q => s ≤ q ∧ q ≤ s + 3) v1 v2 ∧ wI v2 s = up (wI v1 s) 1 (nI (c + 1)) ∧ wI v2 (s + 1) = up (wI v1 (s + 1)) c ca ∧ wI v2 (s + 2) = up (wI v1 (s + 2)) c cb ∧ wI v2 (s + 3) = up (wI v1 (s + 3)) c cn) (hst2 : stpR S ca cb cn x 0 0 d d2) (hd2 : d2 ≤ on) : SEM S s a P g n b lim m true T wi (c + 1) d2 on i v2 w' := by
  obtain ⟨hX, hY, hx, hy, h20, hd, hst, hen⟩ := h
  obtain ⟨k1, q0, q1, q2, q3⟩ := hput
  have hys := hp.ys hY
  have sy := SY.pp hp
  obtain ⟨pk, pL, p48, p46, p49, pf, p170⟩ := hp
  refine ⟨hX.kp k1 (fun q h1 h2 => by omega), hys, ⟨?_, ?_⟩, ⟨p46, ?_, p48, p49.trans hdp, ?_⟩, h20, hd2, hst.push q1 q2 q3 p170 hst2, hen.kp ha hs (SX.ss k1) sy⟩
  · rw [q0, up_o (by decide)]; exact hx.1
  · rw [q0, up_s]
  · rw [pf 47 (by decide) (by decide) (by decide)]; exact hy.2.1
  · rw [pf 50 (by decide) (by decide) (by decide)]; exact hy.2.2.2.2
theorem nx_lt (h : i < m) : nextN m i = i + 1 := by unfold nextN; rw [if_pos h]
theorem one_not (ha : a = 7 ∨ a = 17) (hs : s = 27 ∨ s = 31) (ih : ONEP S s a P g n b lim m (wi + 1) f162) (h : SEM S s a P g n b lim m false T wi c d on i w1 w2) (hcT : c + T ≤ 2 * on) (hon : on < 20) (hlt : i < m) (hbd : bdS 1 w2 = cl (oneZ true r4 r6 v2) bdK) (hYv : YS n b lim m (nextN m i) v2) (ky : Kp (fun q => q = 166) w2 v2) (fy : ∀ j, ¬ nxF j → ¬ j = 47 → wI v2 166 j = wI w2 166 j) (e47 : wI v2 166 47 = nI (on + 1)) : tp (oneL f160 f162 s a (nI wi) true false false (sI w1 s 0 (nI (on + 1)))) (SPO S s a P g n b lim m (fun _ => True) T wi d on i w1 w2) := by
  obtain ⟨u1, eu1⟩ : ∃ u1, u1 = sI w1 s 0 (nI (on + 1)) := ⟨_, rfl⟩
  rw [← eu1]
  have ku1 : Kp (fun q => q = s) w1 u1 := by rw [eu1]; exact kp0 rfl
  have xu1 : wI u1 s = up (wI w1 s) 0 (nI (on + 1)) := by rw [eu1]; exact wI_up
  clear eu1
  have hXu1 : XQ n b lim m i u1 := h.1.kp ku1 (fun q h1 h2 => by omega)
  unfold oneL
  refine tp_ifn (by decide) (tp_ifn (by decide) (tp_if rfl (tp_cl (xq_go hXu1) (fun _ u2 g2 => ?_))))
  obtain ⟨hX2, k2, -⟩ := g2
  obtain ⟨hS, sx, sy⟩ := h.bump ha hs hon hX2 ((ku1.mono (fun q y => Or.inr y)).trans (k2.mono (fun q y => Or.inl y))) (by rw [k2.I (by omega), xu1, up_s]) (by rw [k2.I (by omega), xu1, up_o (by decide)]; exact h.2.2.1.2) hYv ky fy e47
  obtain ⟨v3, e3, p186, p48, p49, pf, pk, pL⟩ := y_push (r2 := true) (r4 := r4) (r6 := r6) (Or.inl rfl) (T := T) (wi := wi) hS.2.2.2.1.2.2.1 (by omega) hS.2.2.2.1.2.2.2.1
  have run := run1 (show bdS 1 w2 = some (.inl 1, v3) by rw [hbd, cl_e e3]; rfl)
  obtain ⟨hS3, sy3⟩ := hS.push ha hs p186 p48 p49 pf pk pL
  rw [nI_s]
  refine tp_cl (ih (T + 1) c d (on + 1) (nextN m i) u2 v3 hS3 (by omega)) (fun r u5 hpo => ?_)
  have hnx := nx_lt hlt
  obtain ⟨sx5, hpo⟩ := hpo
  rcases hpo with ⟨er, k, v, hk, hrun, hfl, hsy⟩ | ⟨er, k, v4, c', on', i', hk, hrun, hS4, hon4, hc4, hsy, hfr, -⟩
  · rw [er]
    exact tp_ifn (by decide) (tp_some ⟨sx.trans sx5, Or.inl ⟨rfl, 1 + k, v, by omega, run.f hrun, hfl, (sy.trans sy3).trans hsy⟩⟩)
  · rw [er]
    have h20 := hS4.2.2.2.2.1
    refine tp_if rfl (tp_cl (x_put5 hS4.2.2.1.2 (by omega) 6 0 0) (fun _ u6 h6 => tp_some ?_))
    have e10 : wI v4 186 T = 10 := by rw [hfr T (by omega), p186, up_s]; rfl
    obtain ⟨v5, e5, hp5⟩ := notsP (T := T) (c := c') hS4.2.2.2.1.2.2.1 e10 hS4.2.2.2.1.1 (by omega)
    have e50 := hS4.2.2.2.1.2.2.2.2
    have r0 := run0 (bd_A e50 (by rw [hp5.2.2.2.2.2.1 50 (by decide) (by decide) (by decide)]; exact e50) (hp5.2.2.2.2.2.1 11 (by decide) (by decide) (by decide)) e5)
    have hd4 := hS4.2.2.2.2.2.1
    refine ⟨(sx.trans sx5).trans (SX.ss h6.1), Or.inr ⟨rfl, 1 + k + 0, v5, c' + 1, on', i', by omega, (run.trans hrun).trans r0, hS4.popped ha hs hp5 ?_ h6 (Or.inl ⟨rfl, rfl, by omega, rfl⟩) hd4, by omega, by omega, ((sy.trans sy3).trans hsy).trans (SY.pp hp5), fun j hj => ?_, trivial⟩⟩
    · rw [hS4.2.2.2.1.2.2.2.1, show wi + 1 + 1 = (wi + 1) + 1 from rfl, nI_pr]
    · rw [hp5.1.I (by decide), hfr j (by omega), p186, up_o (by omega), ky.I (by decide)]
theorem one_open (ha : a = 7 ∨ a = 17) (hs : s = 27 ∨ s = 31) (ih : CONP S s a P g n b lim m (wi + 1) f160) (h : SEM S s a P g n b lim m false T wi c d on i w1 w2) (hcT : c + T ≤ 2 * on) (hon : on < 20) (hlt : i < m) (hbd : bdS 1 w2 = cl (oneZ false true r6 v2) bdK) (hYv : YS n b lim m (nextN m i) v2) (ky : Kp (fun q => q = 166) w2 v2) (fy : ∀ j, ¬ nxF j → ¬ j = 47 → wI v2 166 j = wI w2 166 j) (e47 : wI v2 166 47 = nI (on + 1)) : tp (oneL f160 f162 s a (nI wi) false true false (sI w1 s 0 (nI (on + 1)))) (SPO S s a P g n b lim m (fun _ => True) T wi d on i w1 w2) := by
  obtain ⟨u1, eu1⟩ : ∃ u1, u1 = sI w1 s 0 (nI (on + 1)) := ⟨_, rfl⟩
  rw [← eu1]
  have ku1 : Kp (fun q => q = s) w1 u1 := by rw [eu1]; exact kp0 rfl
  have xu1 : wI u1 s = up (wI w1 s) 0 (nI (on + 1)) := by rw [eu1]; exact wI_up
  clear eu1
  have hXu1 : XQ n b lim m i u1 := h.1.kp ku1 (fun q h1 h2 => by omega)
  unfold oneL
  refine tp_if rfl (tp_cl (xq_go hXu1) (fun _ u2 g2 => ?_))
  obtain ⟨hX2, k2, -⟩ := g2
  obtain ⟨hS, sx, sy⟩ := h.bump ha hs hon hX2 ((ku1.mono (fun q y => Or.inr y)).trans (k2.mono (fun q y => Or.inl y))) (by rw [k2.I (by omega), xu1, up_s]) (by rw [k2.I (by omega), xu1, up_o (by decide)]; exact h.2.2.1.2) hYv ky fy e47
  obtain ⟨v3, e3, p186, p48, p49, pf, pk, pL⟩ := y_push (r2 := false) (r4 := true) (r6 := r6) (Or.inr rfl) (T := T) (wi := wi) hS.2.2.2.1.2.2.1 (by omega) hS.2.2.2.1.2.2.2.1
  have run := run1 (show bdS 1 w2 = some (.inl 1, v3) by rw [hbd, cl_e e3]; rfl)
  obtain ⟨hS3, sy3⟩ := hS.push ha hs p186 p48 p49 pf pk pL
  rw [nI_s]
  refine tp_cl (ih (T + 1) c d (on + 1) (nextN m i) u2 v3 hS3 (by omega) (fun _ => by rw [p186, show T + 1 - 1 = T by omega, up_s]; rfl)) (fun r u5 hpo => ?_)
  have hnx := nx_lt hlt
  obtain ⟨sx5, hpo⟩ := hpo
  rcases hpo with ⟨er, k, v, hk, hrun, hfl, hsy⟩ | ⟨er, k, v4, c', on', i', hk, hrun, hS4, hon4, hc4, hsy, hfr, hext⟩
  · rw [er]
    exact tp_ifn (by decide) (tp_some ⟨sx.trans sx5, Or.inl ⟨rfl, 1 + k, v, by omega, run.f hrun, hfl, (sy.trans sy3).trans hsy⟩⟩)
  · rw [er]
    obtain ⟨hX4, hY4, hx4, ⟨y46, y47, y48, y49, y50⟩, h20, hd4, hst4, hen4⟩ := hS4
    have hT4 := hX4.1.1.2.2.2.1
    have him := hX4.1.2.1
    have e13 : wI v4 186 (T + 1 - 1) = 13 := by rw [show T + 1 - 1 = T by omega, hfr T (by omega), p186, up_s]; rfl
    have n13 : ∀ z : Int32, ¬ 13 = z → ¬ wI v4 186 (T + 1 - 1) = z := fun z hz y => hz (e13.symm.trans y)
    have hn := notsI y48 (by omega) (fun _ => n13 10 (by decide))
    have hj := joinsI (p := 12) y48 (by omega) (fun _ => n13 11 (by decide)) (fun _ _ => n13 12 (by decide))
    refine tp_if rfl ?_
    have hno : ¬ (wdB (tkA n b m i') 11 = true ∨ wdB (tkA n b m i') 10 = true) := by rw [hext.1, hext.2]; decide
    have tot := (run.trans hrun)
    have sxx := sx.trans sx5
    have syy := (sy.trans sy3).trans hsy
    cases hsg : sgOk (tkA n b m i') 41 with
    | true =>
      have t3 : (tkA n b m i').1 = 3 := by
        unfold sgOk at hsg
        rw [Bool.and_eq_true, decide_eq_true_eq] at hsg
        exact hsg.1
      have y11 : ¬ wI v4 166 11 = 0 := by rw [(y_isSgn hY4.1).1.mpr t3]; decide
      have hlt4 := sg_lt hsg
      have key : tp (cl (sh_275 166 12 v4) (fun _ w28 => cl (sh_205 166 41 w28) (fun r31 w30 => if r31 = true then (if wI w30 166 48 = 0 then (cl (sh_197 166 1 w30) (fun r35 w34 => some (r35, w34))) else (stI w30 166 48 ((wI w30 166 48) - 1) (fun w36 => stI w36 166 49 ((wI w36 166 49) - 1) (fun w37 => cl (sh_191 166 w37) (fun _ w38 => some (true, w38)))))) else (cl (sh_197 166 1 w30) (fun r41 w40 => some (r41, w40)))))) (fun r v5 => r = true ∧ YS n b lim m (nextN m i') v5 ∧ SNY true T wi c' on' v5 ∧ Kp (fun q => q = 166) v4 v5 ∧ SY v4 v5) := by
        refine tp_ce hj (tp_ce (show sh_205 166 41 v4 = some (true, v4) by rw [← hsg]; exact y_signHere hY4.1 (c := 41) (by decide)) (tp_if rfl (tp_ifn (by rw [y48]; exact n_ne (b := 0) (by omega) (by omega) (by decide)) ?_)))
        rw [y48, nI_pr]
        refine tp_h (fun q1 g1 k1 L1 => ?_)
        rw [show wI q1 166 49 = nI (wi + 1 + 1) by rw [g1, up_o (by decide)]; exact y49, nI_pr]
        refine tp_h (fun q2 g2 k2 L2 => tp_cl (ys_go ((hY4.up k1 g1 L1 (by decide)).up k2 g2 L2 (by decide)) hT4) (fun _ q3 h3 => tp_some ⟨rfl, h3.1, ⟨?_, ?_, ?_, ?_, ?_⟩, (k1.trans k2).trans h3.2.1, ((SY.oo k1 g1 (by decide)).trans (SY.oo k2 g2 (by decide))).trans (SY.nn h3.2.1 h3.2.2)⟩))
        · rw [h3.2.2 46 (by unfold nxF; omega), g2, up_o (by decide), g1, up_o (by decide)]; exact y46
        · rw [h3.2.2 47 (by unfold nxF; omega), g2, up_o (by decide), g1, up_o (by decide)]; exact y47
        · rw [h3.2.2 48 (by unfold nxF; omega), g2, up_o (by decide), g1, up_s]
        · rw [h3.2.2 49 (by unfold nxF; omega), g2, up_s]
        · rw [h3.2.2 50 (by unfold nxF; omega), g2, up_o (by decide), g1, up_o (by decide)]; exact y50
      obtain ⟨r, v5, e5, er5, hY5, hy5, k5, sy5⟩ := key
      have run5 := run1 (show bdS 1 v4 = some (.inl 1, v5) by
        rw [bd_wh1 y50 y11, y_276 hY4 hT4 hn, if_neg hno, e5, er5]
        rfl)
      refine tp_cl (xq_sign hX4 (c := 41) (by decide) (by decide) hsg) (fun r u6 g6 => ?_)
      rw [g6.1]
      have kx6 : Kp (fun q => q = 1) u5 u6 := g6.2.2
      refine tp_if rfl (tp_some ⟨sxx.trans (SX.tt kx6), Or.inr ⟨rfl, 1 + k + 1, v5, c', on', nextN m i', by rw [nx_lt hlt4]; omega, tot.trans run5, ⟨g6.2.1, hY5, ⟨?_, ?_⟩, hy5, h20, hd4, hst4.same (kx6.I (by omega)) (kx6.I (by omega)) (kx6.I (by omega)) (k5.I (by decide)), hen4.kp ha hs (SX.tt kx6) sy5⟩, by omega, by omega, syy.trans sy5, fun j hj => ?_, trivial⟩⟩)
      · rw [kx6.I (by omega)]; exact hx4.1
      · rw [kx6.I (by omega)]; exact hx4.2
      · rw [k5.I (by decide), hfr j (by omega), p186, up_o (by omega), ky.I (by decide)]
    | false =>
      have hbad : RunF 1 v4 (yBad 1 (atB n b lim m i') v4) := by
        refine runf ?_
        by_cases y11 : wI v4 166 11 = 0
        · rw [bd_wh0 y50 y11, cl_e hn, cl_e hj, if_pos (by rw [y48]; exact jp (by omega) (by omega)), cl_e (y_bad hY4.1 1)]
          rfl
        · rw [bd_wh1 y50 y11, y_276 hY4 hT4 hn, if_neg hno, cl_e hj, cl_e (show sh_205 166 41 v4 = some (false, v4) by rw [← hsg]; exact y_signHere hY4.1 (c := 41) (by decide)), if_neg (by decide), cl_e (y_bad hY4.1 1)]
          rfl
      refine tp_ce (x_sign_bad hX4.1 (c := 41) (by decide) (by decide) hsg) (tp_ifn (by decide) (tp_some ⟨sxx.bad 1 _, Or.inl ⟨rfl, 1 + k + 1, _, by omega, tot.f hbad, FL_bad 1 _, syy.bad 1 _⟩⟩))
end ON
