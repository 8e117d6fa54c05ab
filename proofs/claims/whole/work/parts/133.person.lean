/-! LINE: person -/
section L5
variable {n lim m i o p : Nat} {b : Nat → Nat} {S : Nat → Int32} {w w' w2 wx wy w1 wx' wy' : Wd}
def prS (S : Nat → Int32) (k a1 a2 a3 : Nat) : Nat → Int32 := up (up (up (up S (7 + k) (nI a1)) (13 + k) (nI a2)) (19 + k) (nI a3)) 2 (nI (k + 1))
theorem prS_o {k a1 a2 a3 j : Nat} (h1 : ¬ j = 7 + k) (h2 : ¬ j = 13 + k) (h3 : ¬ j = 19 + k) (h4 : ¬ j = 2) : prS S k a1 a2 a3 j = S j := by
  unfold prS
  rw [up_o h4, up_o h3, up_o h2, up_o h1]
theorem DH.person (hD : DH S o wx wy) {k a1 a2 a3 : Nat} {l : List Nat} (hl : okL l) (ek : S 2 = nI k) (hk : k < 6) (r1 : 1 ≤ a1 ∧ a1 ≤ 9) (r2 : a2 ≤ 9) (r3 : 1 ≤ a3 ∧ a3 ≤ 9) (ho : 6 ≤ o) (kx : Kp (fun q => q = 1 ∨ q = o ∨ q = o + 1 ∨ q = o + 2 ∨ q = o + 3 ∨ q = o + 4) wx wx') (ex : wI wx' o = up (wI wx o) 3 (nI (k + 1))) (x1 : wI wx' (o + 1) = up (wI wx (o + 1)) k (nI a1)) (x2 : wI wx' (o + 2) = up (wI wx (o + 2)) k (nI a2)) (x3 : wI wx' (o + 3) = up (wI wx (o + 3)) k (nI a3)) (x4 : ∀ j, wL wx' (o + 4) j = if j = k then lN (en5 l) else wL wx (o + 4) j) (ey : wI wy' 169 = prS S k a1 a2 a3) (eL : ∀ j, wL wy' 171 j = if j = 12 + k then lN (en8 l) else wL wy 171 j) (e20 : wI wy' 166 20 = wI wy 166 20) (e21 : wI wy' 166 21 = wI wy 166 21) : DH (prS S k a1 a2 a3) o wx' wy' := by
  obtain ⟨d1, d2, d3, d4, d5, d6, d7, d8⟩ := hD
  have ixk : ix (S 2) = k := by rw [ek, ix_nI (by omega)]
  have e2 : prS S k a1 a2 a3 2 = nI (k + 1) := by unfold prS; exact up_s
  have eo : ∀ j, (j < 2 ∨ (2 < j ∧ j < 7) ∨ 25 ≤ j) → prS S k a1 a2 a3 j = S j := fun j h => prS_o (by omega) (by omega) (by omega) (by omega)
  have exo : ∀ j, ¬ j = 3 → wI wx' o j = wI wx o j := fun j hj => by rw [ex, up_o hj]
  refine ⟨ey, ?_, ?_, ?_, ?_, ?_, ?_, ?_⟩
  · obtain ⟨f0, f2, f3, f4, f5, f6, f7, f8, f9, f10⟩ := d2
    refine ⟨by rw [eo 0 (by omega), eo 1 (by omega)]; exact f0, ⟨k + 1, e2, by omega⟩, by rw [eo 3 (by omega)]; exact f3, by rw [eo 4 (by omega)]; exact f4, by rw [eo 5 (by omega)]; exact f5, by rw [eo 6 (by omega)]; exact f6, fun q hq => ?_, fun u hu => ?_, fun q hq => ?_, fun q hq => ?_⟩
    · rw [e2, ix_nI (by omega)] at hq
      by_cases y : q = k
      · subst y
        refine ⟨⟨a1, ?_, r1⟩, ⟨a2, ?_, r2⟩, ⟨a3, ?_, r3⟩⟩
        · unfold prS; rw [up_o (by omega), up_o (by omega), up_o (by omega), up_s]
        · unfold prS; rw [up_o (by omega), up_o (by omega), up_s]
        · unfold prS; rw [up_o (by omega), up_s]
      · rw [prS_o (by omega) (by omega) (by omega) (by omega), prS_o (by omega) (by omega) (by omega) (by omega), prS_o (by omega) (by omega) (by omega) (by omega)]
        exact f7 q (by omega)
    · rw [eo _ (by omega)]; exact f8 u hu
    · rw [eo 5 (by omega)] at hq
      obtain ⟨u, e, y⟩ := f9 q hq
      exact ⟨u, by rw [eo _ (by omega)]; exact e, by unfold onR at *; rw [eo 0 (by omega), eo 1 (by omega)]; exact y⟩
    · rw [eo 3 (by omega)] at hq
      obtain ⟨n, en, h1, h2, hi⟩ := f10 q hq
      refine ⟨n, by rw [eo _ (by omega)]; exact en, h1, h2, fun i hi2 => ?_⟩
      obtain ⟨u, e, y⟩ := hi i hi2
      exact ⟨u, by rw [eo _ (by omega)]; exact e, by unfold onR at *; rw [eo 0 (by omega), eo 1 (by omega)]; exact y⟩
  · obtain ⟨c0, c1, c2, c3, c4, c5, c6, c7, c8, c9, c10⟩ := d3
    refine ⟨by rw [exo 0 (by decide), eo 0 (by omega)]; exact c0, by rw [exo 1 (by decide), eo 1 (by omega)]; exact c1, by rw [ex, up_s, e2], by rw [exo 4 (by decide), eo 3 (by omega)]; exact c3, by rw [exo 5 (by decide), eo 4 (by omega)]; exact c4, by rw [exo 6 (by decide), eo 5 (by omega)]; exact c5, by rw [exo 2 (by decide), eo 6 (by omega)]; exact c6, fun q hq => ?_, fun u hu => ?_, fun q hq => ?_, fun q hq => ?_⟩
    · rw [e2, ix_nI (by omega)] at hq
      rw [x1, x2, x3]
      by_cases y : q = k
      · subst y
        rw [up_s, up_s, up_s]
        refine ⟨?_, ?_, ?_⟩
        · unfold prS; rw [up_o (by omega), up_o (by omega), up_o (by omega), up_s]
        · unfold prS; rw [up_o (by omega), up_o (by omega), up_s]
        · unfold prS; rw [up_o (by omega), up_s]
      · rw [up_o y, up_o y, up_o y, prS_o (by omega) (by omega) (by omega) (by omega), prS_o (by omega) (by omega) (by omega) (by omega), prS_o (by omega) (by omega) (by omega) (by omega)]
        exact c7 q (by omega)
    · rw [kx.I (by omega), eo _ (by omega)]; exact c8 u hu
    · rw [eo 5 (by omega)] at hq
      rw [kx.I (by omega), eo _ (by omega)]; exact c9 q hq
    · rw [eo 3 (by omega)] at hq
      rw [kx.I (by omega), kx.I (by omega), eo _ (by omega)]
      refine ⟨(c10 q hq).1, fun i hi => ?_⟩
      rw [eo _ (by omega)]
      exact (c10 q hq).2 i hi
  · refine ⟨fun q hq => ?_, fun q hq => ?_⟩
    · rw [e2, ix_nI (by omega)] at hq
      show WD (wL wx' (o + 4) q) (wL wy' 171 (12 + q))
      rw [x4, eL]
      by_cases y : q = k
      · rw [if_pos y, if_pos (by omega)]
        exact ⟨l, hl.1, hl.2.1, hl.2.2, rfl, rfl⟩
      · rw [if_neg y, if_neg (by omega)]
        exact d4.1 q (by omega)
    · rw [eo 3 (by omega)] at hq
      show WD (wL wx' (o + 5) q) (wL wy' 171 (12 + (6 + q)))
      rw [kx.L (by omega), eL, if_neg (by omega)]
      exact d4.2 q hq
  · intro q l hq hl
    rw [eo 5 (by omega)] at hq hl
    rw [eo _ (by omega), eo _ (by omega)]
    exact d5 q l hq hl
  · rw [e20, exo 0 (by decide)]; exact d6
  · rw [e21, exo 2 (by decide)]; exact d7
  · rw [exo 2 (by decide)]; exact d8
theorem l_person (h : LnS n b lim m i S o wx wy) (ho : 6 ≤ o) (hi : i < m) (hw : wdOk (tkA n b m i) 1) : t2 (sh_32 p o wx) (sh_195 166 wy) (LO n b lim m i o wx wy) := by
  obtain ⟨hX, hY, hD⟩ := h
  have hT := hX.1.1.2.2.2.1
  obtain ⟨k, ek, hk⟩ := hD.2.1.2.1
  have x3 : wI wx o 3 = nI k := hD.2.2.1.2.2.1.trans ek
  have y2 : wI wy 169 2 = nI k := by rw [hD.1]; exact ek
  rw [x_l1 hX.1 hw]
  unfold sh_40 sh_195
  refine t2_e2 (y_wd hY hT (by decide) hw (by decide) l_rg) (t2_ifn2 (by decide) (t2_e2 (y_wd hY hT (by decide) hw (by decide) l_pe) (t2_if2 (by decide) (t2_gd2 (by decide) (t2_lt1 (t2_lt2 ?_))))))
  rw [x3, show wI wy (166 + 3) (ix 2) = nI k from y2]
  refine t2_if1 (n0le (by omega)) ?_
  by_cases h0 : k = 6
  · subst h0
    exact t2_if1 (by decide) (t2_if2 (by decide) (j_bad hX hY 4 (fun a => t2_end (lo_bad FX.refl FY.refl 4 a))))
  · have hk6 : k < 6 := by omega
    have hib : ib (nI k) 6 = true := ib_nI hk6 (by decide)
    refine t2_ifn1 (show ¬ nI 6 ≤ nI k from nnle (by omega) (by omega)) (t2_ifn2 (n_ne (b := 6) h0 (by omega) (by decide)) (j_go hX hY (fun v1 v2 hX1 hY1 p1 q1 => ?_)))
    have hD1 := hD.pp ho p1 q1
    rw [l12, nI_p, l7, nI_p, l13, nI_p, l19, nI_p]
    refine j_fresh (by omega) hX1 hY1 hD1 (fun f a => ?_) (fun l u1 u2 hl hX2 hY2 p2 q2 f2 => ?_)
    · refine t2_gd1 hib (t2_gL1 (fun u3 e3 k3 ei => t2_gd1 hib ?_))
      rw [e3, if_pos rfl]
      refine t2_if1 rfl (t2_ifn2 (by decide) (t2_end (lo_bad2 (f := f) (a := a) (u1 := v1) (u2 := v2) ((FX_bad (FX.t p1) f a).trans (FX.d k3 (by omega) (by omega))) (FY_bad q1.fy f a) (by rw [ei]) rfl)))
    · refine t2_gd1 hib (t2_gL1 (fun u3 e3 k3 ei => t2_gd1 hib ?_))
      rw [e3, if_pos rfl]
      refine t2_ifn1 (lN_m1 hl) (t2_if2 rfl ?_)
      have hX3 := hX2.kp k3 (fun q hq hq2 => by omega)
      have fx3 : FX o wx u3 := (FX.t (p1.trans p2)).trans (FX.d k3 (by omega) (by omega))
      have fy2 : FY wy u2 := by
        have g1 : FY v2 (sL v2 171 (12 + k) (lN (en8 l))) := ⟨Kp.sL (P := fun q => q = 166 ∨ q = 169 ∨ q = 171) Kp.refl (Or.inr (Or.inr rfl)) _ _, fun j _ => rfl, fun i hi => by rw [wL_up, if_neg (by omega)]⟩
        exact (q1.fy.trans g1).trans (FY.f q2 (P := nxF) f2 (fun j hj => Or.inl hj))
      have eL2 : ∀ j, wL u2 171 j = if j = 12 + k then lN (en8 l) else wL wy 171 j := fun j => by
        rw [q2.L (by decide), wL_up, q1.1.L (by decide)]
      have hd2 : wI u2 169 = S := by rw [q2.I (by decide), wI_sL, q1.1.I (by decide)]; exact hD.1
      refine j_take 1 9 (by decide) (by decide) hX3 hY2 (fun f a => ?_) (fun a1 u4 u5 r1 r1' hX4 hY5 e18 p4 q5 => ?_)
      · refine t2_gd1 hib (t2_g1 (fun u6 e6 k6 => t2_gd1 hib ?_))
        rw [e6, ix_nI (by omega), up_s]
        refine t2_if1 rfl (t2_ifn2 (by decide) (t2_end (lo_bad2 (f := f) (a := a) (u1 := u3) (u2 := u2) ((FX_bad fx3 f a).trans (FX.d k6 (by omega) (by omega))) (FY_bad fy2 f a) (by rw [k6.I (by omega)]) rfl)))
      · refine t2_gd1 hib (t2_g1 (fun u6 e6 k6 => t2_gd1 hib ?_))
        rw [e6, ix_nI (show k < 2147483648 by omega), up_s]
        refine t2_ifn1 (n_m1 (by omega)) (t2_if2 rfl (t2_gd2 (ib_nI (by omega) (by decide)) (t2_g2 (fun u7 e7 k7 => ?_))))
        rw [ix_nI (by omega), e18] at e7
        have fx6 : FX o wx u6 := (fx3.trans (FX.t p4)).trans (FX.d k6 (by omega) (by omega))
        have fy7 : FY wy u7 := (fy2.trans q5.fy).trans (FY.h k7)
        have hX6 := hX4.kp k6 (fun q hq hq2 => by omega)
        have hY7 := hY5.kp k7 (by decide) (by decide) (by decide)
        refine j_take 0 9 (by decide) (by decide) hX6 hY7 (fun f a => ?_) (fun a2 u8 u9 r2 r2' hX8 hY9 e18' p8 q9 => ?_)
        · refine t2_gd1 hib (t2_g1 (fun u10 e10 k10 => t2_gd1 hib ?_))
          rw [e10, up_s]
          refine t2_if1 rfl (t2_ifn2 (by decide) (t2_end (lo_bad2 (f := f) (a := a) (u1 := u6) (u2 := u7) ((FX_bad fx6 f a).trans (FX.d k10 (by omega) (by omega))) (FY_bad fy7 f a) (by rw [k10.I (by omega)]) rfl)))
        · refine t2_gd1 hib (t2_g1 (fun u10 e10 k10 => t2_gd1 hib ?_))
          rw [e10, up_s]
          refine t2_ifn1 (n_m1 (by omega)) (t2_if2 rfl (t2_gd2 (ib_nI (by omega) (by decide)) (t2_g2 (fun u11 e11 k11 => ?_))))
          rw [ix_nI (by omega), e18'] at e11
          have fx10 : FX o wx u10 := (fx6.trans (FX.t p8)).trans (FX.d k10 (by omega) (by omega))
          have fy11 : FY wy u11 := (fy7.trans q9.fy).trans (FY.h k11)
          have hX10 := hX8.kp k10 (fun q hq hq2 => by omega)
          have hY11 := hY9.kp k11 (by decide) (by decide) (by decide)
          refine j_take 1 9 (by decide) (by decide) hX10 hY11 (fun f a => ?_) (fun a3 u12 u13 r3 r3' hX12 hY13 e18'' p12 q13 => ?_)
          · refine t2_gd1 hib (t2_g1 (fun u14 e14 k14 => t2_gd1 hib ?_))
            rw [e14, up_s]
            refine t2_if1 rfl (t2_ifn2 (by decide) (t2_end (lo_bad2 (f := f) (a := a) (u1 := u10) (u2 := u11) ((FX_bad fx10 f a).trans (FX.d k14 (by omega) (by omega))) (FY_bad fy11 f a) (by rw [k14.I (by omega)]) rfl)))
          · refine t2_gd1 hib (t2_g1 (fun u14 e14 k14 => t2_gd1 hib ?_))
            rw [e14, up_s]
            refine t2_ifn1 (n_m1 (by omega)) (t2_g1 (fun u15 e15 k15 => t2_if2 rfl (t2_gd2 (ib_nI (by omega) (by decide)) (t2_g2 (fun u16 e16 k16 => t2_gd2 (by decide) (t2_gd2 (by decide) (t2_g2 (fun u17 e17 k17 => t2_end ?_))))))))
            rw [ix_nI (by omega), e18''] at e16
            have fx15 : FX o wx u15 := ((fx10.trans (FX.t p12)).trans (FX.d k14 (by omega) (by omega))).trans (FX.d k15 (by omega) (by omega))
            have fy17 : FY wy u17 := ((fy11.trans q13.fy).trans (FY.h k16)).trans (FY.h k17)
            have e7' : wI u7 169 = up S (7 + k) (nI a1) := by rw [show (169 : Nat) = 166 + 3 from rfl, e7, show wI u5 (166 + 3) = wI u2 169 from q5.1.I (by decide), hd2]
            have e11' : wI u11 169 = up (up S (7 + k) (nI a1)) (13 + k) (nI a2) := by rw [show wI u11 169 = wI u11 (166 + 3) from rfl, e11, show wI u9 (166 + 3) = wI u7 169 from q9.1.I (by decide), e7']
            have e16' : wI u16 169 = up (up (up S (7 + k) (nI a1)) (13 + k) (nI a2)) (19 + k) (nI a3) := by rw [show wI u16 169 = wI u16 (166 + 3) from rfl, e16, show wI u13 (166 + 3) = wI u11 169 from q13.1.I (by decide), e11']
            have kx : Kp (fun q => q = 1 ∨ q = o ∨ q = o + 1 ∨ q = o + 2 ∨ q = o + 3 ∨ q = o + 4) wx u15 := ((((((((p1.trans p2).mono (fun q y => by omega)).trans (k3.mono (fun q y => by omega))).trans (p4.mono (fun q y => by omega))).trans (k6.mono (fun q y => by omega))).trans (p8.mono (fun q y => by omega))).trans (k10.mono (fun q y => by omega))).trans (p12.mono (fun q y => by omega))).trans ((k14.mono (fun q y => by omega)).trans (k15.mono (fun q y => by omega)))
            have f13 : ∀ j, (j = 20 ∨ j = 21) → wI u17 166 j = wI wy 166 j := fun j hj => by
              rw [k17.I (by decide), k16.I (by decide), q13.2 j (by unfold nxF; omega), k11.I (by decide), q9.2 j (by unfold nxF; omega), k7.I (by decide), q5.2 j (by unfold nxF; omega), f2 j (by unfold nxF; omega), q1.2 j (by unfold nxF; omega)]
            refine lo_on (i' := nextN m (nextN m (nextN m (nextN m (nextN m i))))) fx15 fy17 ?_ ⟨(hX12.kp k14 (fun q hq hq2 => by omega)).kp k15 (fun q hq hq2 => by omega), (hY13.kp k16 (by decide) (by decide) (by decide)).kp k17 (by decide) (by decide) (by decide), hD.person hl ek hk6 ⟨r1, r1'⟩ r2' ⟨r3, r3'⟩ ho kx ?_ ?_ ?_ ?_ ?_ ?_ ?_ (f13 20 (by omega)) (f13 21 (by omega))⟩
            · have := nx_gt hi
              have := @nx_ge m (nextN m i)
              have := @nx_ge m (nextN m (nextN m i))
              have := @nx_ge m (nextN m (nextN m (nextN m i)))
              have := @nx_ge m (nextN m (nextN m (nextN m (nextN m i))))
              omega
            · rw [e15, k14.I (by omega), p12.I (by omega), k10.I (by omega), p8.I (by omega), k6.I (by omega), p4.I (by omega), k3.I (by omega), p2.I (by omega), p1.I (by omega), x3, nI_s]
            · rw [k15.I (by omega), k14.I (by omega), p12.I (by omega), k10.I (by omega), p8.I (by omega), e6, p4.I (by omega), k3.I (by omega), p2.I (by omega), p1.I (by omega), ix_nI (by omega)]
            · rw [k15.I (by omega), k14.I (by omega), p12.I (by omega), e10, p8.I (by omega), k6.I (by omega), p4.I (by omega), k3.I (by omega), p2.I (by omega), p1.I (by omega)]
            · rw [k15.I (by omega), e14, p12.I (by omega), k10.I (by omega), p8.I (by omega), k6.I (by omega), p4.I (by omega), k3.I (by omega), p2.I (by omega), p1.I (by omega)]
            · intro j
              rw [k15.L (by omega), k14.L (by omega), p12.L (by omega), k10.L (by omega), p8.L (by omega), k6.L (by omega), p4.L (by omega), e3, p2.L (by omega), p1.L (by omega), ix_nI (by omega)]
            · rw [show wI u17 169 = wI u17 (166 + 3) from rfl, e17, show wI u16 (166 + 3) = wI u16 169 from rfl, e16', show ix 2 = 2 from rfl]
              unfold prS
              rw [up_o (by omega), up_o (by omega), up_o (by omega), ek, nI_s]
            · intro j
              rw [k17.L (by decide), k16.L (by decide), q13.1.L (by decide), k11.L (by decide), q9.1.L (by decide), k7.L (by decide), q5.1.L (by decide)]
              exact eL2 j
end L5
