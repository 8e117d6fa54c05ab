/-! LINE: door -/
section L4
variable {n lim m i o p : Nat} {b : Nat → Nat} {S : Nat → Int32} {w w' w2 wx wy w1 wx' wy' : Wd}
theorem DH.door (hD : DH S o wx wy) {t a : Nat} (ht : onR S t) (ea : S 5 = nI a) (ha : a < 8) (hnew : ∀ k, k < a → ¬ S (169 + k) = nI t) (ho : 6 ≤ o) (kx : Kp (fun q => q = 1 ∨ q = o ∨ q = o + 9) wx wx') (ex : wI wx' o = up (wI wx o) 6 (nI (a + 1))) (ex9 : wI wx' (o + 9) = up (wI wx (o + 9)) a (nI t)) (ey : wI wy' 169 = up (up S (169 + a) (nI t)) 5 (nI (a + 1))) (ky : Kp (fun q => q = 166 ∨ q = 169) wy wy') (e20 : wI wy' 166 20 = wI wy 166 20) (e21 : wI wy' 166 21 = wI wy 166 21) : DH (up (up S (169 + a) (nI t)) 5 (nI (a + 1))) o wx' wy' := by
  obtain ⟨d1, d2, d3, d4, d5, d6, d7, d8⟩ := hD
  have ix5 : ix (S 5) = a := by rw [ea, ix_nI (by omega)]
  have eo : ∀ j, ¬ j = 169 + a → ¬ j = 5 → up (up S (169 + a) (nI t)) 5 (nI (a + 1)) j = S j := fun j h1 h2 => by rw [up_o h2, up_o h1]
  have e5 : up (up S (169 + a) (nI t)) 5 (nI (a + 1)) 5 = nI (a + 1) := up_s
  have et : up (up S (169 + a) (nI t)) 5 (nI (a + 1)) (169 + a) = nI t := by rw [up_o (by omega), up_s]
  have exo : ∀ j, ¬ j = 6 → wI wx' o j = wI wx o j := fun j hj => by rw [ex, up_o hj]
  refine ⟨ey, ?_, ?_, ?_, ?_, ?_, ?_, ?_⟩
  · obtain ⟨f0, f2, f3, f4, f5, f6, f7, f8, f9, f10⟩ := d2
    refine ⟨by rw [eo 0 (by omega) (by decide), eo 1 (by omega) (by decide)]; exact f0, by rw [eo 2 (by omega) (by decide)]; exact f2, by rw [eo 3 (by omega) (by decide)]; exact f3, by rw [eo 4 (by omega) (by decide)]; exact f4, ⟨a + 1, e5, by omega⟩, by rw [eo 6 (by omega) (by decide)]; exact f6, fun k hk => ?_, fun u hu => ?_, fun k hk => ?_, fun k hk => ?_⟩
    · rw [eo 2 (by omega) (by decide)] at hk
      obtain ⟨P, eP, hP⟩ := f2
      have hk6 : k < 6 := by rw [eP, ix_nI (by omega)] at hk; omega
      rw [eo _ (by omega) (by omega), eo _ (by omega) (by omega), eo _ (by omega) (by omega)]; exact f7 k hk
    · rw [eo _ (by omega) (by omega)]; exact f8 u hu
    · rw [e5, ix_nI (by omega)] at hk
      by_cases q : k = a
      · exact ⟨t, by rw [q, et], by unfold onR at *; rw [eo 0 (by omega) (by decide), eo 1 (by omega) (by decide)]; exact ht⟩
      · obtain ⟨u, e, q⟩ := f9 k (by omega)
        exact ⟨u, by rw [eo _ (by omega) (by omega)]; exact e, by unfold onR at *; rw [eo 0 (by omega) (by decide), eo 1 (by omega) (by decide)]; exact q⟩
    · rw [eo 3 (by omega) (by decide)] at hk
      obtain ⟨n, en, h1, h2, hi⟩ := f10 k hk
      refine ⟨n, by rw [eo _ (by omega) (by omega)]; exact en, h1, h2, fun i hi2 => ?_⟩
      obtain ⟨u, e, q⟩ := hi i hi2
      exact ⟨u, by rw [eo _ (by omega) (by omega)]; exact e, by unfold onR at *; rw [eo 0 (by omega) (by decide), eo 1 (by omega) (by decide)]; exact q⟩
  · obtain ⟨P, eP, hP⟩ := d2.2.1
    obtain ⟨c0, c1, c2, c3, c4, c5, c6, c7, c8, c9, c10⟩ := d3
    refine ⟨by rw [exo 0 (by decide), eo 0 (by omega) (by decide)]; exact c0, by rw [exo 1 (by decide), eo 1 (by omega) (by decide)]; exact c1, by rw [exo 3 (by decide), eo 2 (by omega) (by decide)]; exact c2, by rw [exo 4 (by decide), eo 3 (by omega) (by decide)]; exact c3, by rw [exo 5 (by decide), eo 4 (by omega) (by decide)]; exact c4, by rw [ex, up_s, e5], by rw [exo 2 (by decide), eo 6 (by omega) (by decide)]; exact c6, fun k hk => ?_, fun u hu => ?_, fun k hk => ?_, fun k hk => ?_⟩
    · rw [eo 2 (by omega) (by decide)] at hk
      have hk6 : k < 6 := by rw [eP, ix_nI (by omega)] at hk; omega
      rw [kx.I (by omega), kx.I (by omega), kx.I (by omega), eo _ (by omega) (by omega), eo _ (by omega) (by omega), eo _ (by omega) (by omega)]
      exact c7 k hk
    · rw [kx.I (by omega), eo _ (by omega) (by omega)]; exact c8 u hu
    · rw [e5, ix_nI (by omega)] at hk
      rw [ex9]
      by_cases q : k = a
      · rw [q, up_s, et]
      · rw [up_o q, eo _ (by omega) (by omega)]; exact c9 k (by omega)
    · rw [eo 3 (by omega) (by decide)] at hk
      rw [kx.I (by omega), kx.I (by omega), eo _ (by omega) (by omega)]
      refine ⟨(c10 k hk).1, fun i hi => ?_⟩
      rw [eo _ (by omega) (by omega)]
      exact (c10 k hk).2 i hi
  · have := (d4.kp kx (fun q h1 h2 => by omega)).cong (eo 2 (by omega) (by decide)) (eo 3 (by omega) (by decide))
    rw [ky.L (by decide)]; exact this
  · intro k l hk hl
    rw [e5, ix_nI (by omega)] at hk hl
    by_cases q1 : k = a <;> by_cases q2 : l = a
    · intro _; omega
    · rw [q1, et, eo _ (by omega) (by omega)]
      exact fun z => absurd z.symm (hnew l (by omega))
    · rw [q2, et, eo _ (by omega) (by omega)]
      exact fun z => absurd z (hnew k (by omega))
    · rw [eo _ (by omega) (by omega), eo _ (by omega) (by omega)]
      exact d5 k l (by omega) (by omega)
  · rw [e20, exo 0 (by decide)]; exact d6
  · rw [e21, exo 2 (by decide)]; exact d7
  · rw [exo 2 (by decide)]; exact d8
theorem l_door (h : LnS n b lim m i S o wx wy) (ho : 6 ≤ o) (hi : i < m) (hw : wdOk (tkA n b m i) 3) : t2 (sh_32 p o wx) (sh_195 166 wy) (LO n b lim m i o wx wy) := by
  obtain ⟨hX, hY, hD⟩ := h
  have hT := hX.1.1.2.2.2.1
  obtain ⟨a, ea, ha⟩ := hD.2.1.2.2.2.2.1
  have x6 : wI wx o 6 = nI a := hD.2.2.1.2.2.2.2.2.1.trans ea
  have y5 : wI wy 169 5 = nI a := by rw [hD.1]; exact ea
  rw [x_l3 hX.1 hw]
  unfold sh_47 sh_195
  refine t2_e2 (y_wd hY hT (by decide) hw (by decide) l_rg) (t2_ifn2 (by decide) (t2_e2 (y_wd hY hT (by decide) hw (by decide) l_pe) (t2_ifn2 (by decide) (t2_e2 (y_wd hY hT (by decide) hw (by decide) l_wl) (t2_ifn2 (by decide) (t2_e2 (y_wd hY hT (by decide) hw (by decide) l_dr) (t2_if2 (by decide) (t2_gd2 (by decide) (t2_lt1 ?_)))))))))
  rw [x6, show wI wy (166 + 3) (ix 5) = nI a from y5]
  refine t2_if1 (n0le (by omega)) ?_
  by_cases h0 : a = 8
  · subst h0
    exact t2_if1 (by decide) (t2_if2 (by decide) (j_bad hX hY 4 (fun a => t2_end (lo_bad FX.refl FY.refl 4 a))))
  · refine t2_ifn1 (show ¬ nI 8 ≤ nI a from nnle (by omega) (by omega)) (t2_ifn2 (n_ne (b := 8) h0 (by omega) (by decide)) (j_go hX hY (fun v1 v2 hX1 hY1 p1 q1 => j_xy hX1 hY1 (hD.pp ho p1 q1) ho (fun f a u1 u2 p2 q2 => ?_) (fun t u1 u2 ht ht2 hX2 hY2 e18 p2 q2 => ?_))))
    · exact t2_if1 rfl (t2_ifn2 (by decide) (t2_end (lo_bad (FX.t (p1.trans p2)) (q1.trans q2).fy f a)))
    · have hD2 := (hD.pp ho p1 q1).pp ho p2 q2
      have e3 : wI u2 169 = S := hD2.1
      refine t2_ifn1 (n_m1 (show t < 1000 by omega)) (t2_e1 (x_isDoor hD2.2.1 hD2.2.2.1 (nI t)) (t2_if2 rfl ?_))
      cases hd : isD S (nI t) with
      | true =>
        refine t2_if1 rfl (t2_e1 (x_bad hX2.1 3) (tp_some ?_))
        obtain ⟨k, hk, ek⟩ := of_decide_eq_true hd
        rw [ea, ix_nI (by omega)] at hk
        refine tp_it (fun j s w => s = nI j ∧ w = u2 ∧ j ≤ k) 8 (by omega) ⟨rfl, rfl, by omega⟩ (fun j s w hI => ?_)
        obtain ⟨es, ew, hj⟩ := hI
        subst es; rw [ew]
        refine tp_gd (by decide) ?_
        rw [show wI u2 (166 + 3) (ix 5) = nI a by rw [show wI u2 (166 + 3) = S from e3]; exact ea]
        refine tp_if (nlt (by omega) (by omega)) ?_
        rw [l169, nI_p]
        refine tp_gd (ib_nI (by omega) (by decide)) ?_
        rw [ix_nI (by omega), show wI u2 (166 + 3) = S from e3, e18]
        by_cases q : S (169 + j) = nI t
        · refine tp_if q (tp_ce (y_bad hY2.1 3) (tp_out ?_))
          exact lo_bad (FX.t (p1.trans p2)) (q1.trans q2).fy 3 _
        · refine tp_ifn q ?_
          rw [nI_s]
          refine tp_lt (tp_on ⟨by omega, rfl, rfl, ?_⟩)
          by_cases y : j = k
          · rw [y] at q; exact absurd ek q
          · omega
      | false =>
        have hnew : ∀ k, k < a → ¬ S (169 + k) = nI t := fun k hk e => of_decide_eq_false hd ⟨k, by rw [ea, ix_nI (by omega)]; exact hk, e⟩
        refine t2_ifn1 (by decide) (t2_gd1 (ib_nI (by omega) (by decide)) (t2_g1 (fun u3 e3' k3 => t2_g1 (fun u4 e4 k4 => t2_1 (xq_go ((hX2.kp k3 (fun q hq hq2 => by omega)).kp k4 (fun q hq hq2 => by omega))) (fun _ u7 g7 => tp_some ?_)))))
        obtain ⟨hX7, p7, -⟩ := g7
        refine tp_it (fun j s w => s = nI j ∧ w = u2 ∧ j ≤ a) 8 (by omega) ⟨rfl, rfl, by omega⟩ (fun j s w hI => ?_)
        obtain ⟨es, ew, hj⟩ := hI
        subst es; rw [ew]
        refine tp_gd (by decide) ?_
        rw [show wI u2 (166 + 3) (ix 5) = nI a by rw [show wI u2 (166 + 3) = S from e3]; exact ea]
        by_cases q : j < a
        · refine tp_if (nlt q (by omega)) ?_
          rw [l169, nI_p]
          refine tp_gd (ib_nI (by omega) (by decide)) ?_
          rw [ix_nI (by omega), show wI u2 (166 + 3) = S from e3, e18, nI_s]
          exact tp_ifn (hnew j q) (tp_lt (tp_on ⟨by omega, rfl, rfl, by omega⟩))
        · refine tp_ifn (nnlt (by omega) (by omega)) (tp_gd (by decide) ?_)
          rw [l169, nI_p]
          refine tp_gd (ib_nI (by omega) (by decide)) ?_
          rw [ix_nI (by omega), e18]
          refine tp_stG (fun u5 e5 k5 => tp_gd (by decide) (tp_gd (by decide) (tp_stG (fun u6 e6 k6 => ?_))))
          refine tp_cl (ys_go ((hY2.kp k5 (by decide) (by decide) (by decide)).kp k6 (by decide) (by decide) (by decide)) hT) (fun _ u8 g8 => tp_out ?_)
          obtain ⟨hY8, k8, f8⟩ := g8
          have kx : Kp (fun q => q = 1 ∨ q = o ∨ q = o + 9) wx u7 := (((p1.trans p2).mono (fun q y => Or.inl y)).trans ((k3.mono (fun q y => Or.inr (Or.inr y))).trans (k4.mono (fun q y => Or.inr (Or.inl y))))).trans (p7.mono (fun q y => Or.inl y))
          have ky : Kp (fun q => q = 166 ∨ q = 169) wy u8 := (((q1.1.trans q2.1).mono (fun q y => Or.inl y)).trans ((k5.trans k6).mono (fun q y => Or.inr y))).trans (k8.mono (fun q y => Or.inl y))
          refine lo_on (i' := nextN m (nextN m (nextN m i))) (FX.dd kx (fun q y => by omega)) ((((q1.trans q2).fy).trans (FY.h (k5.trans k6))).trans (FY.f k8 f8 (fun j hj => Or.inl hj))) ?_ ⟨hX7, hY8, hD.door ht ea (by omega) hnew ho kx ?_ ?_ ?_ ky ?_ ?_⟩
          · have := nx_gt hi
            have := @nx_ge m (nextN m i)
            have := @nx_ge m (nextN m (nextN m i))
            omega
          · rw [p7.I (by omega), e4, k3.I (by omega), p2.I (by omega), p1.I (by omega), x6, nI_s]
          · rw [p7.I (by omega), k4.I (by omega), e3', p2.I (by omega), p1.I (by omega), ix_nI (by omega)]
          · have e5' : wI u5 169 = up S (169 + a) (nI t) := by rw [show (169 : Nat) = 166 + 3 from rfl, e5, show wI u2 (166 + 3) = S from e3]
            rw [k8.I (by decide), show wI u6 169 = wI u6 (166 + 3) from rfl, e6, show wI u5 (166 + 3) = up S (169 + a) (nI t) from e5', show ix 5 = 5 from rfl, up_o (by omega), ea, nI_s]
          · rw [f8 20 (by unfold nxF; omega), k6.I (by decide), k5.I (by decide), q2.2 20 (by unfold nxF; omega), q1.2 20 (by unfold nxF; omega)]
          · rw [f8 21 (by unfold nxF; omega), k6.I (by decide), k5.I (by decide), q2.2 21 (by unfold nxF; omega), q1.2 21 (by unfold nxF; omega)]
end L4
