/-! COND; the whole descent; the codes are kept -/
theorem tp_oout2 {S1 α : Type} {A1 : S1 → Wd → Prop} {Q : α → Wd → Prop} {r : α} {w : Wd} (h : Q r w) : tp (some ((.inr r : S1 ⊕ α), w)) (lpQ A1 Q) := ⟨_, _, rfl, h⟩
section SU
variable {S : Nat → Int32} {s a P n lim m i i' c d on T wi : Nat} {wh : Bool} {g : Nat → List Nat} {b : Nat → Nat} {w w' w1 w2 u v u' v' v2 : Wd}
variable {f160 f161 f162 : Nat → Nat → Nat → Int32 → Wd → Option (Bool × Wd)} {r2 r4 : Bool} {r6 : Int32}
theorem step_con (ha : a = 7 ∨ a = 17) (hs : s = 27 ∨ s = 31) (ih : ALLP S s a P g n b lim m wi f161) : CONP S s a P g n b lim m wi (sb_160 f161) := by
  intro T c d on i w1 w2 h hcT hbase
  unfold sb_160
  refine tp_cl (ih T c d on i w1 w2 h hcT (fun z => Or.inr (hbase z))) (fun r u hpo => ?_)
  obtain ⟨sx, hpo⟩ := hpo
  rcases hpo with ⟨er, k, v, hk, hrun, hfl, hsy⟩ | ⟨er, k, v, c', on', i', hk, hrun, hS, hon, hc, hsy, hfr, hna⟩
  · rw [er]
    exact tp_ifn (by decide) (tp_some ⟨sx, Or.inl ⟨rfl, k, v, hk, hrun, hfl, hsy⟩⟩)
  · rw [er]
    refine tp_if rfl (tp_it (fun j st x => st = nI j ∧ SX s w1 x ∧ ∃ k v c' on' i', k + i ≤ i' ∧ RunTo k w2 v ∧ SEM S s a P g n b lim m true T wi c' (d + 1) on' i' x v ∧ on + j < on' ∧ c' + T + 1 ≤ 2 * on' ∧ SY w2 v ∧ (∀ j, j < T → wI v 186 j = wI w2 186 j) ∧ wdB (tkA n b m i') 11 = false) 20 (by omega) ⟨rfl, sx, k, v, c', on', i', hk, hrun, hS, hon, hc, hsy, hfr, hna⟩ (fun j st x hI => ?_))
    clear hna hfr hsy hc hon hS hrun hk sx er
    obtain ⟨es, sx, k, v, c', on', i', hk, hrun, hS, hon, hc, hsy, hfr, hna⟩ := hI
    subst es
    have hS0 := hS
    obtain ⟨hX, hY, hx, hy, h20, hd, hst, hen⟩ := hS
    have hT := hX.1.1.2.2.2.1
    have him := hX.1.2.1
    refine tp_if (show nI j < (20 : Int32) from nlt (b := 20) (by omega) (by decide)) ?_
    have hout : ∀ x', x' = x → wdB (tkA n b m i') 10 = false → tp (some ((.inr true : Int32 ⊕ Bool), x')) (lpQ (fun s' w' => j < 20 ∧ s' = nI (j + 1) ∧ SX s w1 w' ∧ ∃ k v c' on' i', k + i ≤ i' ∧ RunTo k w2 v ∧ SEM S s a P g n b lim m true T wi c' (d + 1) on' i' w' v ∧ on + (j + 1) < on' ∧ c' + T + 1 ≤ 2 * on' ∧ SY w2 v ∧ (∀ j, j < T → wI v 186 j = wI w2 186 j) ∧ wdB (tkA n b m i') 11 = false) (SPO S s a P g n b lim m (fun t => wdB t 11 = false ∧ wdB t 10 = false) T wi d on i w1 w2)) := fun x' ex hno => by
      subst ex
      exact tp_out ⟨sx, Or.inr ⟨rfl, k, v, c', on', i', hk, hrun, hS0, by omega, hc, hsy, hfr, hna, hno⟩⟩
    rcases Classical.em (∃ j2, j2 < 20 ∧ wdB (tkA n b m i') j2 = true) with ⟨j2, hj2, hw⟩ | hnw
    · refine tp_ce (x_wB hX.1 hj2 hw) (tp_gd (zwk_j hj2) (tp_gd rfl ?_))
      by_cases q11 : j2 = 10
      · subst q11
        have hlt := wd_lt hw
        have b10 : ∀ z : Int32, ¬ 13 = z → 0 < T → ¬ wI v 186 (T - 1) = z := fun z z2 hT0 y => by
          rw [hfr _ (by omega)] at y
          exact z2 ((hbase hT0).symm.trans y)
        obtain ⟨v3, e3, hY3, hy3, p186, p170, sy3⟩ := y_op hY hT hy (by omega) (Or.inr hw) (b10 10 (by decide)) (b10 11 (by decide)) (fun z0 _ => b10 12 (by decide) z0)
        rw [hna, if_neg (by decide)] at p186
        refine tp_if rfl (tp_cl (xq_go hX) (fun _ u2 g2 => ?_))
        obtain ⟨hX2, k2, -⟩ := g2
        have k2' : Kp (fun q => q = 1 ∨ q = s) x u2 := k2.mono (fun q y => Or.inl y)
        have hS3 : SEM S s a P g n b lim m false (T + 1) wi c' (d + 1) on' (nextN m i') u2 v3 := ⟨hX2, hY3, ⟨by rw [k2.I (by omega)]; exact hx.1, by rw [k2.I (by omega)]; exact hx.2⟩, hy3, h20, hd, hst.tt hs k2' p170, hen.kp ha hs (SX.tt k2) sy3⟩
        refine tp_cl (ih (T + 1) c' (d + 1) on' (nextN m i') u2 v3 hS3 (by omega) (fun _ => Or.inl (by rw [p186, show T + 1 - 1 = T by omega, up_s]))) (fun r5 u5 hpo => ?_)
        have hnx := nx_lt hlt
        obtain ⟨sx5, hpo⟩ := hpo
        have run := run1 e3
        rcases hpo with ⟨er, k5, v5, hk5, hrun5, hfl5, hsy5⟩ | ⟨er, k5, v5, c5, on5, i5, hk5, hrun5, hS5, hon5, hc5, hsy5, hfr5, hna5⟩
        · rw [er]
          exact tp_ifn (by decide) (tp_out ⟨(sx.trans (SX.tt k2)).trans sx5, Or.inl ⟨rfl, k + 1 + k5, v5, by omega, (hrun.trans run).f hrun5, hfl5, (hsy.trans sy3).trans hsy5⟩⟩)
        · rw [er]
          have h205 := hS5.2.2.2.2.1
          have hd5 := hS5.2.2.2.2.2.1
          have hY5 := hS5.2.1
          obtain ⟨z46, z47, z48, z49, z50⟩ := hS5.2.2.2.1
          refine tp_if rfl (tp_cl (x_put5 hS5.2.2.1.2 (by omega) 8 0 0) (fun _ u6 h6 => tp_lt (tp_on ?_)))
          have e11 : wI v5 186 T = 12 := by rw [hfr5 T (by omega), p186, up_s]
          obtain ⟨v6, e6, hp6⟩ := joinsP (T := T) (c := c5) (x := 12) (p := 12) z48 e11 (Or.inr ⟨rfl, rfl⟩) z46 (by omega)
          have fr6 : ∀ j, j < T → wI v6 186 j = wI w2 186 j := fun j hj => by
            rw [hp6.1.I (by decide), hfr5 j (by omega), p186, up_o (by omega)]
            exact hfr j hj
          have n1 := notsI z48 (by omega) (fun _ => by rw [show T + 1 - 1 = T by omega, e11]; decide)
          have n2 := notsI hp6.2.2.1 (by omega) (fun hT0 y => by
            rw [fr6 _ (by omega)] at y
            rw [hbase hT0] at y; cases y)
          have r0 := run0 (bd_B hY5 (hp6.ys hY5) hT z50 (by rw [hp6.2.2.2.2.2.1 50 (by decide) (by decide) (by decide)]; exact z50) (hp6.2.2.2.2.2.1 11 (by decide) (by decide) (by decide)) n1 n2 (fun z => by rw [hna5] at z; cases z) (fun _ => e6))
          refine ⟨by omega, nI_s j, ((sx.trans (SX.tt k2)).trans sx5).trans (SX.ss h6.1), k + 1 + k5 + 0, v6, c5 + 1, on5, i5, by omega, ((hrun.trans run).trans hrun5).trans r0, hS5.popped ha hs hp6 z49 h6 (Or.inr (Or.inr (Or.inl ⟨rfl, rfl, by omega, by omega⟩))) (by omega), by omega, by omega, ((hsy.trans sy3).trans hsy5).trans (SY.pp hp6), fr6, hna5⟩
      · refine tp_ifn (fun z => by have := Option.some.inj z; omega) (hout _ rfl ?_)
        rw [wdB_inj hj2 (by decide) hw, decide_eq_false q11]
    · have hn : ∀ j, j < 20 → wdB (tkA n b m i') j = false := fun j hj => by
        cases q : wdB (tkA n b m i') j with
        | false => rfl
        | true => exact absurd ⟨j, hj, q⟩ hnw
      exact tp_ce (x_wn hX.1 hn) (tp_gd rfl (tp_gd rfl (tp_ifn (fun z => by cases z) (hout _ rfl (hn 10 (by decide))))))
theorem j_sim (ha : a = 7 ∨ a = 17) (hs : s = 27 ∨ s = 31) (hP : P ≤ 6) (hS3 : S 3 = nI P) : ∀ f, (∀ wi, wi ≤ 8 → 25 ≤ f + 3 * wi → ONEP S s a P g n b lim m wi (sr_S f 2)) ∧ (∀ wi, wi ≤ 8 → 26 ≤ f + 3 * wi → ALLP S s a P g n b lim m wi (sr_S f 1)) ∧ (∀ wi, wi ≤ 8 → 27 ≤ f + 3 * wi → CONP S s a P g n b lim m wi (sr_S f 0)) := by
  intro f
  induction f with
  | zero => exact ⟨fun wi h1 h2 => by omega, fun wi h1 h2 => by omega, fun wi h1 h2 => by omega⟩
  | succ f ih =>
    obtain ⟨i1, i2, i3⟩ := ih
    refine ⟨fun wi h1 h2 => ?_, fun wi h1 h2 => ?_, fun wi h1 h2 => ?_⟩
    · exact step_one ha hs hP hS3 h1 (fun q => i3 (wi + 1) (by omega) (by omega)) (fun q => i1 (wi + 1) (by omega) (by omega))
    · exact step_all ha hs (i1 wi h1 (by omega))
    · exact step_con ha hs (i2 wi h1 (by omega))
theorem y_copy (h46 : wI v 166 46 = nI c) (h47 : wI v 166 47 = nI on) (hc : c ≤ 45) : tp (bdS 0 v) (fun o w' => o = .inr (nI on) ∧ (∀ i, wI w' 168 i = if i = 10084 then nI c else if 10085 ≤ i ∧ i < 10085 + 3 * c then wI v 170 (i - 10085) else wI v 168 i) ∧ Kp (fun q => q = 168) v w') := by
  unfold bdS
  refine tp_if rfl (tp_gd (by decide) (tp_stG (fun w1 e1 k1 => ?_)))
  rw [h46] at e1
  refine tp_it (fun j st w' => st = nI j ∧ j ≤ 3 * c ∧ (∀ i, wI w' 168 i = if i = 10084 then nI c else if 10085 ≤ i ∧ i < 10085 + j then wI v 170 (i - 10085) else wI v 168 i) ∧ Kp (fun q => q = 168) v w') (3 * c) (by omega) ⟨rfl, by omega, fun i => ?_, k1⟩ (fun j st w' hI => ?_)
  · rw [show wI w1 168 = wI w1 (166 + 2) from rfl, e1]
    by_cases q : i = 10084
    · rw [q, if_pos rfl]; exact up_s
    · rw [if_neg q, if_neg (by omega)]; exact up_o q
  · obtain ⟨es, hj, hw, hk⟩ := hI
    subst es
    rw [show wI w' 166 46 = nI c by rw [hk.I (by decide)]; exact h46, show (3 : Int32) * nI c = nI (3 * c) by rw [l3, nI_m]]
    refine tp_ite (fun hlt => ?_) (fun hlt => ?_)
    · have hj8 : j < 3 * c := (nlt_i (by omega) (by omega)).mp hlt
      rw [show (10085 : Int32) + nI j = nI (10085 + j) from nI_p 10085 j, nI_s, ix_nI (by omega), ix_nI (by omega)]
      refine tp_gd (ib_nI (by omega) (by decide)) (tp_gd (ib_nI (by omega) (by decide)) (tp_stG (fun w2 e2 k2 => tp_lt (tp_on ⟨hj8, rfl, by omega, fun i => ?_, hk.trans k2⟩))))
      rw [show wI w2 168 = wI w2 (166 + 2) from rfl, e2]
      by_cases q : i = 10085 + j
      · rw [q, up_s, if_neg (by omega), if_pos (by omega), show 10085 + j - 10085 = j by omega, show wI w' (166 + 4) = wI w' 170 from rfl, hk.I (by decide)]
      · rw [up_o q, show wI w' (166 + 2) i = wI w' 168 i from rfl, hw i]
        by_cases q1 : i = 10084
        · rw [if_pos q1, if_pos q1]
        · rw [if_neg q1, if_neg q1]
          by_cases q2 : 10085 ≤ i ∧ i < 10085 + j
          · rw [if_pos q2, if_pos (by omega)]
          · rw [if_neg q2, if_neg (by omega)]
    · have hj8 : j = 3 * c := by
        by_cases q : j < 3 * c
        · exact absurd (nlt q (by omega)) hlt
        · omega
      subst hj8
      refine tp_oout2 ⟨by rw [hk.I (by decide), h47], hw, hk⟩
end SU
