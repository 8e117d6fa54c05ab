/-! X Y are taken: the place stays at Y -/
section XY
variable {n lim m i W H o p : Nat} {b : Nat → Nat} {w w' : Wd}
def vA (n : Nat) (b : Nat → Nat) (m i : Nat) : Nat := (tkA n b m i).2.headD 0
theorem x_xy_ok (h : XP n b lim m i w) (ho : ¬ o = 1) (eW : wI w o 0 = nI W) (eH : wI w o 1 = nI H) (k1 : numOk (tkA n b m i) 0 (nI W - 1)) (k2 : numOk (tkA n b m (nextN m i)) 0 (nI H - 1)) : tp (sh_46 p o w) (fun v w' => v = nI (12 * vA n b m (nextN m i) + vA n b m i) ∧ XP n b lim m (nextN m i) w' ∧ Kp (fun q => q = 1) w w' ∧ Ft (fun j => j = 6) w w') := by
  have v1 := tkA_num k1.1
  have v2 := tkA_num k2.1
  unfold sh_46
  rw [eW]
  refine tp_cl (x_take h k1) (fun v w1 h1 => ?_)
  obtain ⟨ev, hX, hK, hF⟩ := h1
  subst ev
  refine tp_ifn (by rw [i_eq, i_nI (by omega)]; show ¬ (((tkA n b m i).2.headD 0 : Nat) : Int) = -1; omega) ?_
  rw [hK.I ho, eH]
  refine tp_ce (x_number_ok hX k2) (tp_lt (tp_some ⟨?_, hX, hK, hF⟩))
  rw [if_neg (by rw [i_eq, i_nI (by omega)]; show ¬ (((tkA n b m (nextN m i)).2.headD 0 : Nat) : Int) = -1; omega), l12, nI_m, nI_p, Nat.mul_comm]
  rfl
theorem x_xy_no1 (h : XP n b lim m i w) (eW : wI w o 0 = nI W) (k1 : ¬ numOk (tkA n b m i) 0 (nI W - 1)) : sh_46 p o w = some (-1, xBad (numC (tkA n b m i)) (atB n b lim m i) w) := by
  unfold sh_46
  rw [eW, cl_e (x_take_no h (by decide) k1), if_pos rfl]
theorem x_xy_no2 (h : XP n b lim m i w) (ho : ¬ o = 1) (eW : wI w o 0 = nI W) (eH : wI w o 1 = nI H) (k1 : numOk (tkA n b m i) 0 (nI W - 1)) (k2 : ¬ numOk (tkA n b m (nextN m i)) 0 (nI H - 1)) : tp (sh_46 p o w) (fun v w' => v = -1 ∧ ∃ w1, w' = xBad (numC (tkA n b m (nextN m i))) (atB n b lim m (nextN m i)) w1 ∧ XP n b lim m (nextN m i) w1 ∧ Kp (fun q => q = 1) w w1 ∧ Ft (fun j => j = 6) w w1) := by
  have v1 := tkA_num k1.1
  unfold sh_46
  rw [eW]
  refine tp_cl (x_take h k1) (fun v w1 h1 => ?_)
  obtain ⟨ev, hX, hK, hF⟩ := h1
  subst ev
  refine tp_ifn (by rw [i_eq, i_nI (by omega)]; show ¬ (((tkA n b m i).2.headD 0 : Nat) : Int) = -1; omega) ?_
  rw [hK.I ho, eH]
  exact tp_ce (x_number_no hX (by decide) k2) (tp_lt (tp_some ⟨by rw [if_pos rfl], w1, rfl, hX, hK, hF⟩))
theorem y_xy_ok (hB : MB n b lim w) (h : MK n b lim m i w) (hT : TM n b (min n lim) m) (eW : wI w 169 0 = nI W) (eH : wI w 169 1 = nI H) (hH : H ≤ 12) (k1 : numOk (tkA n b m i) 0 (nI W - 1)) (k2 : numOk (tkA n b m (nextN m i)) 0 (nI H - 1)) : tp (sh_203 166 w) (fun v w' => v = true ∧ wI w' 166 18 = nI (12 * vA n b m (nextN m i) + vA n b m i) ∧ MK n b lim m (nextN m i) w' ∧ MB n b lim w' ∧ Kp (fun q => q = 166) w w' ∧ Fm (fun j => nxF j ∨ j = 18) w w') := by
  have v2 := tkA_num k2.1
  unfold sh_203
  refine tp_gd (by decide) ?_
  rw [show wI w (166 + 3) (ix 0) = nI W from eW]
  refine tp_cl (y_take hB h hT k1) (fun v w1 h1 => ?_)
  obtain ⟨ev, e18, hM, hB1, hK, hF⟩ := h1
  obtain ⟨q1, q2⟩ := y_isNum hM
  rw [e18]
  refine tp_if ev (tp_lt (tp_if (q1.mpr k2.1) (tp_gd (by decide) ?_)))
  rw [show wI w1 (166 + 3) (ix 1) = nI H by rw [show wI w1 (166 + 3) = wI w 169 from hK.I (by decide)]; exact eH, q2 k2.1]
  have hlt : ¬ nI H ≤ nI ((tkA n b m (nextN m i)).2.headD 0) := by
    have k3 := k2.2.2
    cases H with
    | zero =>
      rw [i_le, i_nI (by omega)] at k3
      have : (nI 0 - 1 : Int32).toInt = -1 := by decide
      omega
    | succ H =>
      rw [nI_pred] at k3
      exact nnle (by have := (nI_leI (by omega) (by omega)).mp k3; omega) (by omega)
  refine tp_ifn hlt ?_
  rw [l12, nI_m, nI_p]
  have hK2 : Kp (fun q => q = 166) w1 (sI w1 166 18 (nI (12 * (tkA n b m (nextN m i)).2.headD 0 + (tkA n b m i).2.headD 0))) := kp0 (P := fun q => q = 166) rfl
  have hF2 : Fm (fun j => nxF j ∨ j = 18) w (sI w1 166 18 (nI (12 * (tkA n b m (nextN m i)).2.headD 0 + (tkA n b m i).2.headD 0))) := fun j hj => by
    rw [wI_other (fun y => hj (Or.inr y))]; exact hF j hj
  refine tp_stI (tp_some ⟨rfl, wI_same, ?_, hB.fm hF2 (hK.trans hK2) (by unfold nxF; omega) (by unfold nxF; omega), hK.trans hK2, hF2⟩)
  obtain ⟨a1, a2, a3, a4⟩ := hM
  refine ⟨a1, by rw [wI_other (by decide)]; exact a2, fun q => ?_, fun q => ?_⟩
  · rw [wI_other (by decide), wI_other (by decide), wI_other (by decide), wL_sI']; exact a3 q
  · rw [wI_other (by decide), wI_other (by decide)]; exact a4 q
theorem y_xy_no1 (h : MK n b lim m i w) (eW : wI w 169 0 = nI W) (k1 : ¬ numOk (tkA n b m i) 0 (nI W - 1)) : sh_203 166 w = some (false, yBad (numC (tkA n b m i)) (atB n b lim m i) w) := by
  unfold sh_203
  rw [gd_l (by decide) (by decide), show wI w (166 + 3) (ix 0) = nI W from eW, cl_e (y_take_no h k1), if_neg (by decide)]
theorem y_xy_no2 (hB : MB n b lim w) (h : MK n b lim m i w) (hT : TM n b (min n lim) m) (eW : wI w 169 0 = nI W) (eH : wI w 169 1 = nI H) (hH : H ≤ 12) (k1 : numOk (tkA n b m i) 0 (nI W - 1)) (k2 : ¬ numOk (tkA n b m (nextN m i)) 0 (nI H - 1)) : tp (sh_203 166 w) (fun v w' => v = false ∧ ∃ w1, w' = yBad (numC (tkA n b m (nextN m i))) (atB n b lim m (nextN m i)) w1 ∧ MK n b lim m (nextN m i) w1 ∧ MB n b lim w1 ∧ Kp (fun q => q = 166) w w1 ∧ Fm (fun j => nxF j ∨ j = 18) w w1) := by
  unfold sh_203
  refine tp_gd (by decide) ?_
  rw [show wI w (166 + 3) (ix 0) = nI W from eW]
  refine tp_cl (y_take hB h hT k1) (fun v w1 h1 => ?_)
  obtain ⟨ev, e18, hM, hB1, hK, hF⟩ := h1
  obtain ⟨q1, q2⟩ := y_isNum hM
  refine tp_if ev (tp_lt ?_)
  by_cases q : (tkA n b m (nextN m i)).1 = 2
  · have v2 := tkA_num q
    refine tp_if (q1.mpr q) (tp_gd (by decide) ?_)
    rw [show wI w1 (166 + 3) (ix 1) = nI H by rw [show wI w1 (166 + 3) = wI w 169 from hK.I (by decide)]; exact eH, q2 q]
    have hle : nI H ≤ nI ((tkA n b m (nextN m i)).2.headD 0) := by
      by_cases y : H ≤ (tkA n b m (nextN m i)).2.headD 0
      · exact nle y (by omega)
      · refine absurd ⟨q, n0le (by omega), ?_⟩ k2
        cases H with
        | zero => omega
        | succ H =>
          rw [nI_pred]
          exact nle (by omega) (by omega)
    refine tp_if hle (tp_ce (y_bad hM 2) (tp_some ⟨rfl, w1, ?_, hM, hB1, hK, hF⟩))
    unfold numC yBad
    rw [if_pos q]
  · refine tp_ifn (fun z => q (q1.mp z)) (tp_ce (y_bad hM 1) (tp_some ⟨rfl, w1, ?_, hM, hB1, hK, hF⟩))
    unfold numC yBad
    rw [if_neg q]
end XY
