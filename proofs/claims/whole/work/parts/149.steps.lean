/-! ONE, ALL, COND: the class's descent, the reference's turns -/
section ST
variable {S : Nat → Int32} {s a P n lim m i i' c d on T wi : Nat} {wh : Bool} {g : Nat → List Nat} {b : Nat → Nat} {w w' w1 w2 u v u' v' v2 : Wd}
variable {f160 f161 f162 : Nat → Nat → Nat → Int32 → Wd → Option (Bool × Wd)} {r2 r4 : Bool} {r6 : Int32}
theorem one_gen {t4 z8 t12 : Bool} (h : SEM S s a P g n b lim m false T wi c d on i w1 w2) (hwi : wi ≤ 8) (h277 : sh_277 166 w2 = oneY r2 r4 r6 w2) (kf : on < 20 → wi < 8 → ∀ v, bdS 1 w2 = cl (oneZ r2 r4 r6 v) bdK → YS n b lim m (nextN m i) v → Kp (fun q => q = 166) w2 v → (∀ j, ¬ nxF j → ¬ j = 47 → wI v 166 j = wI w2 166 j) → wI v 166 47 = nI (on + 1) → tp (oneL f160 f162 s a (nI wi) t4 z8 t12 (sI w1 s 0 (nI (on + 1)))) (SPO S s a P g n b lim m (fun _ => True) T wi d on i w1 w2)) : tp (oneK f160 f162 s a (nI wi) t4 z8 t12 w1) (SPO S s a P g n b lim m (fun _ => True) T wi d on i w1 w2) := by
  obtain ⟨hX, hY, hx, hy, h20, hd, hst, hen⟩ := h
  have hT := hX.1.1.2.2.2.1
  have him := hX.1.2.1
  have hop := bd_op (w := w2) hy.2.2.2.2
  by_cases hf : on = 20 ∨ 8 ≤ wi
  · refine tp_eq (x_full hX hx.1 h20 (by omega) hf) ⟨SX.refl.bad 4 _, Or.inl ⟨rfl, 1, yBad 4 (atB n b lim m i) w2, by omega, runf ?_, FL_bad 4 _, SY.refl.bad 4 _⟩⟩
    rw [hop, h277, y_full hY hy.2.1 hy.2.2.2.1 h20 (by omega) hf]
    rfl
  · have q1 : on < 20 := by omega
    have q2 : wi < 8 := by omega
    rw [x_free hx.1 q1 q2]
    obtain ⟨v, ev, g1, g2, g3, g4⟩ := y_free (r2 := r2) (r4 := r4) (r6 := r6) hY hT hy.2.1 hy.2.2.2.1 q1 q2
    exact kf q1 q2 v (by rw [hop, h277, ev]; rfl) g1 g2 g3 g4
theorem one_bad (h : SEM S s a P g n b lim m false T wi c d on i w1 w2) (h277 : sh_277 166 w2 = cl (sh_197 166 1 w2) (fun r w' => some (r, w'))) : tp (cl (sh_36 1 1 w1) (fun r w => some (r, w))) (SPO S s a P g n b lim m (fun _ => True) T wi d on i w1 w2) := by
  obtain ⟨hX, hY, hx, hy, h20, hd, hst, hen⟩ := h
  have him := hX.1.2.1
  refine tp_ce (x_bad hX.1 1) (tp_some ⟨SX.refl.bad 1 _, Or.inl ⟨rfl, 1, yBad 1 (atB n b lim m i) w2, by omega, runf ?_, FL_bad 1 _, SY.refl.bad 1 _⟩⟩)
  rw [bd_op (w := w2) hy.2.2.2.2, h277, cl_e (y_bad hY.1 1)]
  rfl
theorem step_one (ha : a = 7 ∨ a = 17) (hs : s = 27 ∨ s = 31) (hP : P ≤ 6) (hS3 : S 3 = nI P) (hwi : wi ≤ 8) (ih0 : wi < 8 → CONP S s a P g n b lim m (wi + 1) f160) (ih2 : wi < 8 → ONEP S s a P g n b lim m (wi + 1) f162) : ONEP S s a P g n b lim m wi (sb_162 f160 f162) := by
  intro T c d on i w1 w2 h hcT
  have hX := h.1
  have hY := h.2.1
  have hT := hX.1.1.2.2.2.1
  have h20 := h.2.2.2.2.1
  have hd := h.2.2.2.2.2.1
  have e277 := y_277 hY hT
  rcases Classical.em (∃ j, j < 20 ∧ wdB (tkA n b m i) j = true) with ⟨j, hj, hw⟩ | hnw
  · have hlt := wd_lt hw
    have s40 : sgOk (tkA n b m i) 40 = false := sgB_no (by rw [(wdB_iff.mp hw).1]; decide)
    rw [s40, wdB_inj hj (by decide) hw, lfB_j hj hw] at e277
    refine fr_word hX hj hw (fun q12 => ?_) (fun q13 => ?_) (fun q14 => ?_) (fun q11 => ?_)
    · rw [if_pos (decide_eq_true q12), decide_eq_true q12] at e277
      exact one_gen h hwi e277 (fun q1 q2 v hbd g1 g2 g3 g4 => one_not ha hs (ih2 q2) h hcT q1 hlt hbd g1 g2 g3 g4)
    · rw [decide_eq_false (show ¬ j = 12 by omega), if_neg (by decide), if_neg (by decide), if_neg (show ¬ j < 13 by omega), if_neg (show ¬ nI (j - 13) < (0 : Int32) from (nnlt (b := 0) (by omega) (by omega) : ¬ nI (j - 13) < nI 0)), show j - 13 = 0 by omega] at e277
      refine one_gen h hwi e277 (fun q1 q2 v hbd g1 g2 g3 g4 => ?_)
      obtain ⟨u1, eu1⟩ : ∃ u1, u1 = sI w1 s 0 (nI (on + 1)) := ⟨_, rfl⟩
      rw [← eu1]
      have ku1 : Kp (fun q => q = s) w1 u1 := by rw [eu1]; exact kp0 rfl
      have xu1 : wI u1 s = up (wI w1 s) 0 (nI (on + 1)) := by rw [eu1]; exact wI_up
      clear eu1
      have hXu1 : XQ n b lim m i u1 := hX.kp ku1 (fun q h1 h2 => by omega)
      unfold oneL
      refine tp_ifn (by decide) (tp_if rfl ?_)
      rw [cl_id]
      unfold sh_164
      refine tp_cl (xq_go hXu1) (fun _ u2 k2 => ?_)
      obtain ⟨hX2, k2, -⟩ := k2
      obtain ⟨hS, sx, sy⟩ := h.bump ha hs q1 hX2 ((ku1.mono (fun q y => Or.inr y)).trans (k2.mono (fun q y => Or.inl y))) (by rw [k2.I (by omega), xu1, up_s]) (by rw [k2.I (by omega), xu1, up_o (by decide)]; exact h.2.2.1.2) g1 g2 g3 g4
      exact leaf_spo hlt (j_trod ha hs hP hS3 hS (by omega) (by omega)) hbd sx sy (g2.I (by decide)) hcT
    · obtain ⟨q, eq, hq⟩ : ∃ q, j = q + 14 ∧ q < 6 := ⟨j - 14, by omega, by omega⟩
      rw [decide_eq_false (show ¬ j = 12 by omega), if_neg (by decide), if_neg (by decide), if_neg (show ¬ j < 13 by omega), if_neg (show ¬ nI (j - 13) < (0 : Int32) from (nnlt (b := 0) (by omega) (by omega) : ¬ nI (j - 13) < nI 0)), show j - 13 = q + 1 by omega] at e277
      refine one_gen h hwi e277 (fun q1 q2 v hbd g1 g2 g3 g4 => ?_)
      obtain ⟨u1, eu1⟩ : ∃ u1, u1 = sI w1 s 0 (nI (on + 1)) := ⟨_, rfl⟩
      rw [← eu1]
      have ku1 : Kp (fun q => q = s) w1 u1 := by rw [eu1]; exact kp0 rfl
      have xu1 : wI u1 s = up (wI w1 s) 0 (nI (on + 1)) := by rw [eu1]; exact wI_up
      clear eu1
      have hXu1 : XQ n b lim m i u1 := hX.kp ku1 (fun q h1 h2 => by omega)
      unfold oneL
      refine tp_ifn (by decide) (tp_ifn (by decide) (tp_ifn (by decide) ?_))
      rw [cl_id]
      unfold sh_166
      refine tp_ce (x_ms hXu1.1 hj hw) (tp_cl (xq_go hXu1) (fun _ u2 k2 => ?_))
      rw [if_neg (show ¬ j < 14 by omega), show j - 14 = q by omega]
      obtain ⟨hX2, k2, -⟩ := k2
      obtain ⟨hS, sx, sy⟩ := h.bump ha hs q1 hX2 ((ku1.mono (fun q y => Or.inr y)).trans (k2.mono (fun q y => Or.inl y))) (by rw [k2.I (by omega), xu1, up_s]) (by rw [k2.I (by omega), xu1, up_o (by decide)]; exact h.2.2.1.2) g1 g2 g3 g4
      exact leaf_spo hlt (j_meas hq ha hs hS (by omega) (by omega)) hbd sx sy (g2.I (by decide)) hcT
    · rw [decide_eq_false (show ¬ j = 12 by omega), if_neg (by decide), if_neg (by decide), if_pos (show j < 13 by omega), if_pos (by decide)] at e277
      exact one_bad h e277
  · have hn : ∀ j, j < 20 → wdB (tkA n b m i) j = false := fun j hj => by
      cases q : wdB (tkA n b m i) j with
      | false => rfl
      | true => exact absurd ⟨j, hj, q⟩ hnw
    rw [hn 12 (by decide), lfB_no hn, if_neg (by decide)] at e277
    cases s40 : sgOk (tkA n b m i) 40 with
    | true =>
      rw [s40, if_pos rfl] at e277
      refine fr_sign hX s40 (one_gen h hwi e277 (fun q1 q2 v hbd g1 g2 g3 g4 => one_open ha hs (ih0 q2) h hcT q1 (sg_lt s40) hbd g1 g2 g3 g4))
    | false =>
      rw [s40, if_neg (by decide), if_pos (by decide)] at e277
      exact fr_none hX hn s40 (one_bad h e277)
/-- and, or: the reference puts it on its stack -/
theorem y_op (hY : YS n b lim m i v) (hT : TM n b (min n lim) m) (hy : SNY true T wi c on v) (hT45 : T < 45) (hor : wdB (tkA n b m i) 11 = true ∨ wdB (tkA n b m i) 10 = true) (h10 : 0 < T → ¬ wI v 186 (T - 1) = 10) (h11 : 0 < T → ¬ wI v 186 (T - 1) = 11) (h12 : 0 < T → wdB (tkA n b m i) 11 = false → ¬ wI v 186 (T - 1) = 12) : ∃ v3, bdS 1 v = some (.inl 1, v3) ∧ YS n b lim m (nextN m i) v3 ∧ SNY false (T + 1) wi c on v3 ∧ wI v3 186 = up (wI v 186) T (if wdB (tkA n b m i) 11 = true then 11 else 12) ∧ wI v3 170 = wI v 170 ∧ SY v v3 := by
  obtain ⟨y46, y47, y48, y49, y50⟩ := hy
  have hn := notsI y48 (by omega) h10
  have hj : sh_275 166 (if wdB (tkA n b m i) 11 = true then 11 else 12) v = some ((), v) := by
    refine joinsI y48 (by omega) h11 (fun z0 z => ?_)
    cases q : wdB (tkA n b m i) 11 with
    | true => rw [q, if_pos rfl] at z; cases z
    | false => exact h12 z0 q
  have y11 : ¬ wI v 166 11 = 0 := by
    have : (tkA n b m i).1 = 1 := by rcases hor with q | q <;> exact (wdB_iff.mp q).1
    rw [(y_word17 hY.1 this).1]
    decide
  have key : tp (gd (ib (wI v 166 48) 45) (stI v (166 + 20) (ix (wI v 166 48)) (if wdB (tkA n b m i) 11 = true then 11 else 12) (fun w15 => stI w15 166 48 ((wI w15 166 48) + 1) (fun w16 => stI w16 166 50 0 (fun w17 => cl (sh_191 166 w17) (fun _ w18 => some (true, w18))))))) (fun r v3 => r = true ∧ YS n b lim m (nextN m i) v3 ∧ SNY false (T + 1) wi c on v3 ∧ wI v3 186 = up (wI v 186) T (if wdB (tkA n b m i) 11 = true then 11 else 12) ∧ wI v3 170 = wI v 170 ∧ SY v v3) := by
    rw [y48, ix_nI (by omega)]
    refine tp_gd (ib_nI hT45 (by decide)) (tp_h (fun q1 g1 k1 L1 => ?_))
    rw [show wI q1 166 48 = nI T by rw [k1.I (by decide)]; exact y48, nI_s]
    refine tp_h (fun q2 g2 k2 L2 => tp_h (fun q3 g3 k3 L3 => ?_))
    have hY1 : YS n b lim m i q1 := hY.kp k1 (by decide) (by decide) (by decide)
    refine tp_cl (ys_go ((hY1.up k2 g2 L2 (by decide)).up k3 g3 L3 (by decide)) hT) (fun _ q4 h4 => tp_some ⟨rfl, h4.1, ⟨?_, ?_, ?_, ?_, ?_⟩, ?_, ?_, ((((SY.kk k1).trans (SY.oo k2 g2 (by decide))).trans (SY.oo k3 g3 (by decide))).trans (SY.nn h4.2.1 h4.2.2))⟩)
    · rw [h4.2.2 46 (by unfold nxF; omega), g3, up_o (by decide), g2, up_o (by decide), k1.I (by decide)]; exact y46
    · rw [h4.2.2 47 (by unfold nxF; omega), g3, up_o (by decide), g2, up_o (by decide), k1.I (by decide)]; exact y47
    · rw [h4.2.2 48 (by unfold nxF; omega), g3, up_o (by decide), g2, up_s]
    · rw [h4.2.2 49 (by unfold nxF; omega), g3, up_o (by decide), g2, up_o (by decide), k1.I (by decide)]; exact y49
    · rw [h4.2.2 50 (by unfold nxF; omega), g3, up_s]; rfl
    · rw [h4.2.1.I (by decide), k3.I (by decide), k2.I (by decide)]; exact g1
    · rw [h4.2.1.I (by decide), k3.I (by decide), k2.I (by decide), k1.I (by decide)]
  obtain ⟨r, v3, e, er, h⟩ := key
  refine ⟨v3, ?_, h⟩
  rw [bd_wh1 y50 y11, y_276 hY hT hn, if_pos hor, cl_e hj, cl_e (y_wB hY hT (k := 11) (by decide) w_and)]
  show cl (gd (ib (wI v 166 48) 45) _) _ = _
  rw [e, er]
  rfl
theorem step_all (ha : a = 7 ∨ a = 17) (hs : s = 27 ∨ s = 31) (ih : ONEP S s a P g n b lim m wi f162) : ALLP S s a P g n b lim m wi (sb_161 f162) := by
  intro T c d on i w1 w2 h hcT hbase
  unfold sb_161
  refine tp_cl (ih T c d on i w1 w2 h hcT) (fun r u hpo => ?_)
  obtain ⟨sx, hpo⟩ := hpo
  rcases hpo with ⟨er, k, v, hk, hrun, hfl, hsy⟩ | ⟨er, k, v, c', on', i', hk, hrun, hS, hon, hc, hsy, hfr, -⟩
  · rw [er]
    exact tp_ifn (by decide) (tp_some ⟨sx, Or.inl ⟨rfl, k, v, hk, hrun, hfl, hsy⟩⟩)
  · rw [er]
    refine tp_if rfl (tp_it (fun j st x => st = nI j ∧ SX s w1 x ∧ ∃ k v c' on' i', k + i ≤ i' ∧ RunTo k w2 v ∧ SEM S s a P g n b lim m true T wi c' (d + 1) on' i' x v ∧ on + j < on' ∧ c' + T + 1 ≤ 2 * on' ∧ SY w2 v ∧ (∀ j, j < T → wI v 186 j = wI w2 186 j)) 20 (by omega) ⟨rfl, sx, k, v, c', on', i', hk, hrun, hS, hon, hc, hsy, hfr⟩ (fun j st x hI => ?_))
    clear hfr hsy hc hon hS hrun hk sx er
    obtain ⟨es, sx, k, v, c', on', i', hk, hrun, hS, hon, hc, hsy, hfr⟩ := hI
    subst es
    have hS0 := hS
    obtain ⟨hX, hY, hx, hy, h20, hd, hst, hen⟩ := hS
    have hT := hX.1.1.2.2.2.1
    have him := hX.1.2.1
    refine tp_if (show nI j < (20 : Int32) from nlt (b := 20) (by omega) (by decide)) ?_
    have hout : ∀ x', x' = x → wdB (tkA n b m i') 11 = false → tp (some ((.inr true : Int32 ⊕ Bool), x')) (lpQ (fun s' w' => j < 20 ∧ s' = nI (j + 1) ∧ SX s w1 w' ∧ ∃ k v c' on' i', k + i ≤ i' ∧ RunTo k w2 v ∧ SEM S s a P g n b lim m true T wi c' (d + 1) on' i' w' v ∧ on + (j + 1) < on' ∧ c' + T + 1 ≤ 2 * on' ∧ SY w2 v ∧ (∀ j, j < T → wI v 186 j = wI w2 186 j)) (SPO S s a P g n b lim m (fun t => wdB t 11 = false) T wi d on i w1 w2)) := fun x' ex hno => by
      subst ex
      exact tp_out ⟨sx, Or.inr ⟨rfl, k, v, c', on', i', hk, hrun, hS0, by omega, hc, hsy, hfr, hno⟩⟩
    rcases Classical.em (∃ j2, j2 < 20 ∧ wdB (tkA n b m i') j2 = true) with ⟨j2, hj2, hw⟩ | hnw
    · refine tp_ce (x_wB hX.1 hj2 hw) (tp_gd (zwk_j hj2) (tp_gd rfl ?_))
      by_cases q11 : j2 = 11
      · subst q11
        have hlt := wd_lt hw
        have b10 : ∀ z : Int32, ¬ 12 = z → ¬ 13 = z → 0 < T → ¬ wI v 186 (T - 1) = z := fun z z1 z2 hT0 y => by
          rw [hfr _ (by omega)] at y
          rcases hbase hT0 with q | q
          · exact z1 (q.symm.trans y)
          · exact z2 (q.symm.trans y)
        obtain ⟨v3, e3, hY3, hy3, p186, p170, sy3⟩ := y_op hY hT hy (by omega) (Or.inl hw) (b10 10 (by decide) (by decide)) (b10 11 (by decide) (by decide)) (fun _ z => by rw [hw] at z; cases z)
        rw [if_pos hw] at p186
        refine tp_if rfl (tp_cl (xq_go hX) (fun _ u2 g2 => ?_))
        obtain ⟨hX2, k2, -⟩ := g2
        have k2' : Kp (fun q => q = 1 ∨ q = s) x u2 := k2.mono (fun q y => Or.inl y)
        have hS3 : SEM S s a P g n b lim m false (T + 1) wi c' (d + 1) on' (nextN m i') u2 v3 := ⟨hX2, hY3, ⟨by rw [k2.I (by omega)]; exact hx.1, by rw [k2.I (by omega)]; exact hx.2⟩, hy3, h20, hd, hst.tt hs k2' p170, hen.kp ha hs (SX.tt k2) sy3⟩
        refine tp_cl (ih (T + 1) c' (d + 1) on' (nextN m i') u2 v3 hS3 (by omega)) (fun r5 u5 hpo => ?_)
        have hnx := nx_lt hlt
        obtain ⟨sx5, hpo⟩ := hpo
        have run := run1 e3
        rcases hpo with ⟨er, k5, v5, hk5, hrun5, hfl5, hsy5⟩ | ⟨er, k5, v5, c5, on5, i5, hk5, hrun5, hS5, hon5, hc5, hsy5, hfr5, -⟩
        · rw [er]
          exact tp_ifn (by decide) (tp_out ⟨(sx.trans (SX.tt k2)).trans sx5, Or.inl ⟨rfl, k + 1 + k5, v5, by omega, (hrun.trans run).f hrun5, hfl5, (hsy.trans sy3).trans hsy5⟩⟩)
        · rw [er]
          have h205 := hS5.2.2.2.2.1
          have hd5 := hS5.2.2.2.2.2.1
          have hY5 := hS5.2.1
          obtain ⟨z46, z47, z48, z49, z50⟩ := hS5.2.2.2.1
          refine tp_if rfl (tp_cl (x_put5 hS5.2.2.1.2 (by omega) 7 0 0) (fun _ u6 h6 => tp_lt (tp_on ?_)))
          have e11 : wI v5 186 T = 11 := by rw [hfr5 T (by omega), p186, up_s]
          obtain ⟨v6, e6, hp6⟩ := joinsP (T := T) (c := c5) (x := 11) (p := if wdB (tkA n b m i5) 11 = true then 11 else 12) z48 e11 (Or.inl rfl) z46 (by omega)
          have fr6 : ∀ j, j < T → wI v6 186 j = wI w2 186 j := fun j hj => by
            rw [hp6.1.I (by decide), hfr5 j (by omega), p186, up_o (by omega)]
            exact hfr j hj
          have n1 := notsI z48 (by omega) (fun _ => by rw [show T + 1 - 1 = T by omega, e11]; decide)
          have n2 := notsI hp6.2.2.1 (by omega) (fun hT0 y => by
            rw [fr6 _ (by omega)] at y
            rcases hbase hT0 with q | q
            · rw [q] at y; cases y
            · rw [q] at y; cases y)
          have r0 := run0 (bd_B hY5 (hp6.ys hY5) hT z50 (by rw [hp6.2.2.2.2.2.1 50 (by decide) (by decide) (by decide)]; exact z50) (hp6.2.2.2.2.2.1 11 (by decide) (by decide) (by decide)) n1 n2 (fun z => by rw [z, if_pos rfl] at e6; exact e6) (fun z => by rw [z, if_neg (by decide)] at e6; exact e6))
          refine ⟨by omega, nI_s j, ((sx.trans (SX.tt k2)).trans sx5).trans (SX.ss h6.1), k + 1 + k5 + 0, v6, c5 + 1, on5, i5, by omega, ((hrun.trans run).trans hrun5).trans r0, hS5.popped ha hs hp6 z49 h6 (Or.inr (Or.inl ⟨rfl, rfl, by omega, by omega⟩)) (by omega), by omega, by omega, ((hsy.trans sy3).trans hsy5).trans (SY.pp hp6), fr6⟩
      · refine tp_ifn (fun z => by have := Option.some.inj z; omega) (hout _ rfl ?_)
        rw [wdB_inj hj2 (by decide) hw, decide_eq_false q11]
    · have hn : ∀ j, j < 20 → wdB (tkA n b m i') j = false := fun j hj => by
        cases q : wdB (tkA n b m i') j with
        | false => rfl
        | true => exact absurd ⟨j, hj, q⟩ hnw
      exact tp_ce (x_wn hX.1 hn) (tp_gd rfl (tp_gd rfl (tp_ifn (fun z => by cases z) (hout _ rfl (hn 11 (by decide))))))
end ST
