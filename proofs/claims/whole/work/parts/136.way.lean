/-! LINE: way -/
section L6
variable {n lim m i o p : Nat} {b : Nat → Nat} {S : Nat → Int32} {w w' w2 wx wy w1 wx' wy' : Wd}
theorem isWl_nI {t : Nat} (ht : t < 144) : isWl S (nI t) = decide (S (25 + t) = 1) := by
  unfold isWl
  rw [decide_eq_true (n0le (by omega)), decide_eq_true (show nI t < 144 from nlt (b := 144) ht (by decide)), ix_nI (by omega), Bool.true_and, Bool.true_and]
theorem DH.way {S' : Nat → Int32} {k g : Nat} {T : Nat → Nat} {l : List Nat} (hD : DH S o wx wy) (hl : okL l) (ek : S 3 = nI k) (hk : k < 6) (hg : g ≤ 40) (hon : ∀ a, a ≤ g → onR S (T a)) (ho : 6 ≤ o) (hx : XWY S k g T o w1) (kx : Kp (fun q => q = 1 ∨ q = o + 5 ∨ q = o + 6 ∨ q = o + 7) wx w1) (k1 : Kp (fun q => q = o) w1 wx') (ex : wI wx' o = up (wI wx o) 4 (nI (k + 1))) (x5 : ∀ j, wL w1 (o + 5) j = if j = k then lN (en5 l) else wL wx (o + 5) j) (ey : wI wy' 169 = S') (s3 : S' 3 = nI (k + 1)) (s7 : S' (177 + k) = nI (g + 1)) (sT : ∀ a, a ≤ g → S' (183 + 41 * k + a) = nI (T a)) (so : ∀ j, j < 183 + 41 * k → ¬ j = 3 → ¬ j = 177 + k → S' j = S j) (eL : ∀ j, wL wy' 171 j = if j = 18 + k then lN (en8 l) else wL wy 171 j) (e20 : wI wy' 166 20 = wI wy 166 20) (e21 : wI wy' 166 21 = wI wy 166 21) : DH S' o wx' wy' := by
  obtain ⟨d1, d2, d3, d4, d5, d6, d7, d8⟩ := hD
  have ixk : ix (S 3) = k := by rw [ek, ix_nI (by omega)]
  have exo : ∀ j, ¬ j = 4 → wI wx' o j = wI wx o j := fun j hj => by rw [ex, up_o hj]
  have hR1 := hx.1
  have on' : ∀ t, onR S t → onR S' t := fun t ht => by unfold onR at *; rw [so 0 (by omega) (by omega) (by omega), so 1 (by omega) (by omega) (by omega)]; exact ht
  have w10 := d2.2.2.2.2.2.2.2.2.2
  refine ⟨ey, ?_, ?_, ?_, ?_, ?_, ?_, ?_⟩
  · obtain ⟨f0, f2, f3, f4, f5, f6, f7, f8, f9, f10⟩ := d2
    refine ⟨by rw [so 0 (by omega) (by omega) (by omega), so 1 (by omega) (by omega) (by omega)]; exact f0, by rw [so 2 (by omega) (by omega) (by omega)]; exact f2, ⟨k + 1, s3, by omega⟩, by rw [so 4 (by omega) (by omega) (by omega)]; exact f4, by rw [so 5 (by omega) (by omega) (by omega)]; exact f5, by rw [so 6 (by omega) (by omega) (by omega)]; exact f6, fun q hq => ?_, fun u hu => ?_, fun q hq => ?_, fun q hq => ?_⟩
    · rw [so 2 (by omega) (by omega) (by omega)] at hq
      obtain ⟨P, eP, hP⟩ := f2
      have hk6 : q < 6 := by rw [eP, ix_nI (by omega)] at hq; omega
      rw [so _ (by omega) (by omega) (by omega), so _ (by omega) (by omega) (by omega), so _ (by omega) (by omega) (by omega)]
      exact f7 q hq
    · rw [so _ (by omega) (by omega) (by omega)]; exact f8 u hu
    · rw [so 5 (by omega) (by omega) (by omega)] at hq
      obtain ⟨D, eD, hD⟩ := f5
      have hq8 : q < 8 := by rw [eD, ix_nI (by omega)] at hq; omega
      obtain ⟨u, e, y⟩ := f9 q hq
      exact ⟨u, by rw [so _ (by omega) (by omega) (by omega)]; exact e, on' u y⟩
    · rw [s3, ix_nI (by omega)] at hq
      by_cases y : q = k
      · subst y
        exact ⟨g + 1, s7, by omega, by omega, fun i hi => ⟨T i, sT i (by omega), on' _ (hon i (by omega))⟩⟩
      · obtain ⟨n, en, h1, h2, hi⟩ := f10 q (by omega)
        refine ⟨n, by rw [so _ (by omega) (by omega) (by omega)]; exact en, h1, h2, fun i hi2 => ?_⟩
        obtain ⟨u, e, z⟩ := hi i hi2
        exact ⟨u, by rw [so _ (by omega) (by omega) (by omega)]; exact e, on' u z⟩
  · obtain ⟨P, eP, hP⟩ := d2.2.1
    obtain ⟨D, eD, hD⟩ := d2.2.2.2.2.1
    obtain ⟨c0, c1, c2, c3, c4, c5, c6, c7, c8, c9, c10⟩ := hR1
    have e1 : wI w1 o = wI wx o := kx.I (by omega)
    rw [e1] at c0 c1 c2 c3 c4 c5 c6
    refine ⟨by rw [exo 0 (by decide), so 0 (by omega) (by omega) (by omega)]; exact c0, by rw [exo 1 (by decide), so 1 (by omega) (by omega) (by omega)]; exact c1, by rw [exo 3 (by decide), so 2 (by omega) (by omega) (by omega)]; exact c2, by rw [ex, up_s, s3], by rw [exo 5 (by decide), so 4 (by omega) (by omega) (by omega)]; exact c4, by rw [exo 6 (by decide), so 5 (by omega) (by omega) (by omega)]; exact c5, by rw [exo 2 (by decide), so 6 (by omega) (by omega) (by omega)]; exact c6, fun q hq => ?_, fun u hu => ?_, fun q hq => ?_, fun q hq => ?_⟩
    · rw [so 2 (by omega) (by omega) (by omega)] at hq
      have hk6 : q < 6 := by rw [eP, ix_nI (by omega)] at hq; omega
      rw [k1.I (by omega), k1.I (by omega), k1.I (by omega), so _ (by omega) (by omega) (by omega), so _ (by omega) (by omega) (by omega), so _ (by omega) (by omega) (by omega)]
      exact c7 q hq
    · rw [k1.I (by omega), so _ (by omega) (by omega) (by omega)]; exact c8 u hu
    · rw [so 5 (by omega) (by omega) (by omega)] at hq
      have hq8 : q < 8 := by rw [eD, ix_nI (by omega)] at hq; omega
      rw [k1.I (by omega), so _ (by omega) (by omega) (by omega)]; exact c9 q hq
    · rw [s3, ix_nI (by omega)] at hq
      rw [k1.I (by omega), k1.I (by omega)]
      by_cases y : q = k
      · subst y
        rw [s7, ix_nI (by omega)]
        refine ⟨hx.2.1, fun i hi => ?_⟩
        rw [sT i (by omega)]
        exact hx.2.2 i (by omega)
      · obtain ⟨n, en, h1, h2, -⟩ := w10 q (by omega)
        rw [so _ (by omega) (by omega) (by omega)]
        refine ⟨(c10 q (by omega)).1, fun i hi => ?_⟩
        have hi' := hi
        rw [en, ix_nI (by omega)] at hi'
        rw [so _ (by omega) (by omega) (by omega)]
        exact (c10 q (by omega)).2 i hi
  · refine ⟨fun q hq => ?_, fun q hq => ?_⟩
    · rw [so 2 (by omega) (by omega) (by omega)] at hq
      obtain ⟨P, eP, hP⟩ := d2.2.1
      have hk6 : q < 6 := by rw [eP, ix_nI (by omega)] at hq; omega
      show WD (wL wx' (o + 4) q) (wL wy' 171 (12 + q))
      rw [k1.L (by omega), kx.L (by omega), eL, if_neg (by omega)]
      exact d4.1 q hq
    · rw [s3, ix_nI (by omega)] at hq
      show WD (wL wx' (o + 5) q) (wL wy' 171 (12 + (6 + q)))
      rw [k1.L (by omega), x5, eL]
      by_cases y : q = k
      · rw [if_pos y, if_pos (by omega)]
        exact ⟨l, hl.1, hl.2.1, hl.2.2, rfl, rfl⟩
      · rw [if_neg y, if_neg (by omega)]
        exact d4.2 q (by omega)
  · obtain ⟨D, eD, hD⟩ := d2.2.2.2.2.1
    intro q l hq hl
    rw [so 5 (by omega) (by omega) (by omega)] at hq hl
    have hq8 : q < 8 := by rw [eD, ix_nI (by omega)] at hq; omega
    have hl8 : l < 8 := by rw [eD, ix_nI (by omega)] at hl; omega
    rw [so _ (by omega) (by omega) (by omega), so _ (by omega) (by omega) (by omega)]
    exact d5 q l hq hl
  · rw [e20, exo 0 (by decide)]; exact d6
  · rw [e21, exo 2 (by decide)]; exact d7
  · rw [exo 2 (by decide)]; exact d8
theorem l_way (h : LnS n b lim m i S o wx wy) (ho : 6 ≤ o) (hi : i < m) (hw : wdOk (tkA n b m i) 4) : t2 (sh_32 p o wx) (sh_195 166 wy) (LO n b lim m i o wx wy) := by
  obtain ⟨hX, hY, hD⟩ := h
  have hT := hX.1.1.2.2.2.1
  obtain ⟨k, ek, hk⟩ := hD.2.1.2.2.1
  have hF := hD.2.1
  have x4 : wI wx o 4 = nI k := hD.2.2.1.2.2.2.1.trans ek
  have y3 : wI wy 169 3 = nI k := by rw [hD.1]; exact ek
  rw [x_l4 hX.1 hw]
  unfold sh_49 sh_195
  refine t2_e2 (y_wd hY hT (by decide) hw (by decide) l_rg) (t2_ifn2 (by decide) (t2_e2 (y_wd hY hT (by decide) hw (by decide) l_pe) (t2_ifn2 (by decide) (t2_e2 (y_wd hY hT (by decide) hw (by decide) l_wl) (t2_ifn2 (by decide) (t2_e2 (y_wd hY hT (by decide) hw (by decide) l_dr) (t2_ifn2 (by decide) (t2_e2 (y_wd hY hT (by decide) hw (by decide) l_wy) (t2_if2 (by decide) ?_)))))))))
  rw [show cl (sh_204 166 wy) (fun r w => some (r, w)) = sh_204 166 wy from cl_id]
  unfold sh_204
  refine t2_gd2 (by decide) (t2_lt1 (t2_lt2 ?_))
  rw [x4, show wI wy (166 + 3) (ix 3) = nI k from y3]
  refine t2_if1 (n0le (by omega)) ?_
  by_cases h0 : k = 6
  · subst h0
    exact t2_if1 (by decide) (t2_if2 (by decide) (j_bad hX hY 4 (fun a => t2_end (lo_bad FX.refl FY.refl 4 a))))
  · have hk6 : k < 6 := by omega
    have hib : ib (nI k) 6 = true := ib_nI hk6 (by decide)
    refine t2_ifn1 (show ¬ nI 6 ≤ nI k from nnle (by omega) (by omega)) (t2_ifn2 (n_ne (b := 6) h0 (by omega) (by decide)) (j_go hX hY (fun v1 v2 hX1 hY1 p1 q1 => ?_)))
    have hD1 := hD.pp ho p1 q1
    rw [show (18 : Int32) = nI 18 from rfl, nI_p]
    refine j_fresh (by omega) hX1 hY1 hD1 (fun f a => ?_) (fun l u1 u2 hl hX2 hY2 p2 q2 f2 => ?_)
    · refine t2_gd1 hib (t2_gL1 (fun u3 e3 k3 ei => t2_gd1 hib ?_))
      rw [e3, if_pos rfl]
      refine t2_if1 rfl (t2_ifn2 (by decide) (t2_end (lo_bad2 (f := f) (a := a) (u1 := v1) (u2 := v2) ((FX_bad (FX.t p1) f a).trans (FX.d k3 (by omega) (by omega))) (FY_bad q1.fy f a) (by rw [ei]) rfl)))
    · refine t2_gd1 hib (t2_gL1 (fun u3 e3 k3 ei => t2_gd1 hib ?_))
      rw [e3, if_pos rfl]
      refine t2_ifn1 (lN_m1 hl) (t2_if2 rfl ?_)
      have hX3 := hX2.kp k3 (fun q hq hq2 => by omega)
      have fx3 : FX o wx u3 := (FX.t (p1.trans p2)).trans (FX.d k3 (by omega) (by omega))
      have fy2 : FY wy u2 := by
        have g1 : FY v2 (sL v2 171 (18 + k) (lN (en8 l))) := ⟨Kp.sL (P := fun q => q = 166 ∨ q = 169 ∨ q = 171) Kp.refl (Or.inr (Or.inr rfl)) _ _, fun j _ => rfl, fun i hi => by rw [wL_up, if_neg (by omega)]⟩
        exact (q1.fy.trans g1).trans (FY.f q2 (P := nxF) f2 (fun j hj => Or.inl hj))
      have eL2 : ∀ j, wL u2 171 j = if j = 18 + k then lN (en8 l) else wL wy 171 j := fun j => by
        rw [q2.L (by decide), wL_up, q1.1.L (by decide)]
      have hd2 : wI u2 169 = S := by rw [q2.I (by decide), wI_sL, q1.1.I (by decide)]; exact hD.1
      have x53 : ∀ j, wL u3 (o + 5) j = if j = k then lN (en5 l) else wL wx (o + 5) j := fun j => by
        rw [e3, p2.L (by omega), p1.L (by omega), ix_nI (by omega)]
      have kx3 : Kp (fun q => q = 1 ∨ q = o + 5 ∨ q = o + 6 ∨ q = o + 7) wx u3 := ((p1.trans p2).mono (fun q y => Or.inl y)).trans (k3.mono (fun q y => Or.inr (Or.inl y)))
      have f20 : ∀ j, (j = 20 ∨ j = 21) → wI u2 166 j = wI wy 166 j := fun j hj => by rw [f2 j (by unfold nxF; omega), q1.2 j (by unfold nxF; omega)]
      have hD3 : DH S o u3 u2 := by
        obtain ⟨d1, d2, d3, d4, d5, d6, d7, d8⟩ := hD
        have kI : ∀ q, q = o ∨ (o + 1 ≤ q ∧ q ≤ o + 9) → wI u3 q = wI wx q := fun q hq => by rw [ei, p2.I (by omega), p1.I (by omega)]
        refine ⟨hd2, d2, ?_, ⟨fun q hq => ?_, fun q hq => ?_⟩, d5, ?_, ?_, ?_⟩
        · unfold HR at d3 ⊢
          rw [kI o (Or.inl rfl), kI (o + 1) (by omega), kI (o + 2) (by omega), kI (o + 3) (by omega), kI (o + 6) (by omega), kI (o + 7) (by omega), kI (o + 8) (by omega), kI (o + 9) (by omega)]
          exact d3
        · show WD (wL u3 (o + 4) q) (wL u2 171 (12 + q))
          obtain ⟨P, eP, hP⟩ := d2.2.1
          have hk6 : q < 6 := by rw [eP, ix_nI (by omega)] at hq; omega
          rw [k3.L (by omega), p2.L (by omega), p1.L (by omega), eL2, if_neg (by omega)]
          exact d4.1 q hq
        · show WD (wL u3 (o + 5) q) (wL u2 171 (12 + (6 + q)))
          have hq' := hq
          rw [ek, ix_nI (by omega)] at hq'
          rw [x53, if_neg (by omega), eL2, if_neg (by omega)]
          exact d4.2 q hq
        · rw [f20 20 (by omega), kI o (Or.inl rfl)]; exact d6
        · rw [f20 21 (by omega), kI o (Or.inl rfl)]; exact d7
        · rw [kI o (Or.inl rfl)]; exact d8
      refine j_xy hX3 hY2 hD3 ho (fun f a u4 u5 p4 q5 => ?_) (fun t u4 u5 ht ht2 hX4 hY5 e18 p4 q5 => ?_)
      · exact t2_if1 rfl (t2_ifn2 (by decide) (t2_end (lo_bad (fx3.trans (FX.t p4)) (fy2.trans q5.fy) f a)))
      · have hD5 := hD3.pp ho p4 q5
        refine t2_ifn1 (n_m1 (by omega)) (t2_e1 (x_isWall hF hD5.2.2.1 (nI t)) (t2_if2 rfl ?_))
        rw [isWl_nI ht2, e18, l25, nI_p]
        refine t2_gd2 (ib_nI (by omega) (by decide)) ?_
        rw [ix_nI (show 25 + t < 2147483648 by omega), show wI u5 (166 + 3) (25 + t) = S (25 + t) from congrFun hD5.1 _]
        by_cases z : S (25 + t) = 1
        · refine t2_if1 (decide_eq_true z) (t2_if2 z (j_bad hX4 hY5 5 (fun a => t2_end (lo_bad (fx3.trans (FX.t p4)) (fy2.trans q5.fy) 5 a))))
        · refine t2_ifn1 (by rw [decide_eq_false z]; decide) (t2_ifn2 z ?_)
          rw [l183, l41, nI_m, nI_p]
          refine t2_lt2 (t2_gd2 (ib_nI (by omega) (by decide)) (t2_g2 (fun u6 e6 k6 => ?_)))
          rw [ix_nI (by omega)] at e6
          have e6' : wI u6 169 = up (wI u5 169) (183 + 41 * k) (nI t) := e6
          refine j_go hX4 (hY5.kp k6 (by decide) (by decide) (by decide)) (fun u7 u8 hX7 hY8 p7 q8 => t2_gd1 hib (t2_g1 (fun u9 e9 k9 => ?_)))
          rw [ix_nI (by omega)] at e9
          have hX9 : XQ n b lim m _ u9 := hX7.kp k9 (fun q hq hq2 => by omega)
          have hR7 : HR S u7 o := hD5.2.2.1.kp p7 (fun q h1 h2 => by omega)
          have hR9 : HR S u9 o := hR7.way hF ek hk6 (k9.mono (fun q y => Or.inl y)) (fun j hj => by rw [e9, up_o hj]) (fun j hj => by rw [k9.I (by omega)])
          refine t2_e1 (x_lenW (L := 0) (by rw [e9, up_s]; rfl) (by decide) hk6 (nI t)) ?_
          have k10 : Kp (fun q => q = o + 6 ∨ q = o + 7) u9 (sI (sI u9 (o + 7) (41 * k + 0) (nI t)) (o + 6) k (nI (0 + 1))) := (kp0 (P := fun q => q = o + 6 ∨ q = o + 7) (Or.inr rfl)).sI (Or.inl rfl) _ _
          have hx10 : XWY S k 0 (fun _ => t) o (sI (sI u9 (o + 7) (41 * k + 0) (nI t)) (o + 6) k (nI (0 + 1))) := by
            refine ⟨hR9.way hF ek hk6 k10 (fun j hj => ?_) (fun j hj => ?_), wI_same, fun i hi => ?_⟩
            · rw [wI_other hj, wI_row (by omega)]
            · rw [wI_row (by omega), wI_other (by omega)]
            · rw [wI_row (by omega), show i = 0 by omega, wI_same]
          generalize eu10 : sI (sI u9 (o + 7) (41 * k + 0) (nI t)) (o + 6) k (nI (0 + 1)) = u10 at k10 hx10 ⊢
          have hX10 := hX9.kp k10 (fun q hq hq2 => by omega)
          have hy8 : YWY S k 0 (fun _ => t) u8 := by
            refine ⟨fun i hi => ?_, fun j hj => ?_⟩
            · rw [q8.1.I (by decide), e6', show 183 + 41 * k + i = 183 + 41 * k by omega, up_s]
            · rw [q8.1.I (by decide), e6', up_o (by omega)]; exact congrFun hD5.1 j
          have lp := way_loop (p := p) (T0 := fun _ => t) hF ho ek hk6 hX10 hY8 ht hx10 hy8
          obtain ⟨r1, w11, er1, r2, w12, er2, hq⟩ := lp
          refine t2_e1 er1 ?_
          have kx10 : Kp (fun q => q = 1 ∨ q = o + 5 ∨ q = o + 6 ∨ q = o + 7) wx u10 := ((kx3.trans ((p4.trans p7).mono (fun q y => Or.inl y))).trans (k9.mono (fun q y => by omega))).trans (k10.mono (fun q y => by omega))
          have fy8 : FY wy u8 := ((fy2.trans q5.fy).trans (FY.h k6)).trans q8.fy
          obtain ⟨kq, fq, hq⟩ := hq
          have kx11 : Kp (fun q => q = 1 ∨ q = o + 5 ∨ q = o + 6 ∨ q = o + 7) wx w11 := kx10.trans (kq.mono (fun q y => by omega))
          have fx11 : FX o wx w11 := kx11.mono (fun q y => by omega)
          have fy12 : FY wy w12 := fy8.trans fq
          rcases hq with ⟨a1, a2, hfl⟩ | ⟨a1, a2, i', g, T, hi', hg, hX11, hY12, hon, hx11, s3, s7, sT, so, g20, g21, g171⟩ | ⟨a1, a2, i', hX11, hsg, g15, g16⟩
          · rw [a1]
            refine t2_ifn1 (by decide) (tp_some (tp_eq er2 ?_))
            rw [a2]
            exact ⟨fx11, fy12, Or.inr (Or.inl ⟨rfl, rfl, hfl⟩)⟩
          · rw [a1]
            refine t2_if1 rfl (t2_g1 (fun w13 e13 k13 => tp_some (tp_eq er2 ?_)))
            rw [a2]
            have x13 : wI w13 o = up (wI wx o) 4 (nI (k + 1)) := by rw [e13, kx11.I (by omega), x4, nI_s]
            refine lo_on (i' := i') (fx11.trans (FX.d k13 (by omega) (by omega))) fy12 ?_ ⟨hX11.kp k13 (fun q hq hq2 => by omega), hY12, hD.way hl ek hk6 hg hon ho hx11 kx11 k13 x13 (fun j => ?_) rfl s3 s7 sT so (fun j => ?_) ?_ ?_⟩
            · have := nx_gt hi
              have := @nx_ge m (nextN m i)
              have := @nx_ge m (nextN m (nextN m i))
              have := @nx_ge m (nextN m (nextN m (nextN m i)))
              omega
            · rw [kq.L (by omega), k10.L (by omega), k9.L (by omega), p7.L (by omega), p4.L (by omega), x53]
            · rw [g171, q8.1.L (by decide), k6.L (by decide), q5.1.L (by decide), eL2]
            · rw [g20, q8.2 20 (by unfold nxF; omega), k6.I (by decide), q5.2 20 (by unfold nxF; omega), f20 20 (by omega)]
            · rw [g21, q8.2 21 (by unfold nxF; omega), k6.I (by decide), q5.2 21 (by unfold nxF; omega), f20 21 (by omega)]
          · rw [a1]
            refine t2_if1 rfl (t2_g1 (fun w13 e13 k13 => tp_some (tp_eq er2 ?_)))
            rw [a2]
            exact ⟨fx11.trans (FX.d k13 (by omega) (by omega)), fy12, Or.inr (Or.inr ⟨rfl, rfl, i', hX11.kp k13 (fun q hq hq2 => by omega), hsg, g15, g16⟩)⟩
/-- any LINE -/
theorem l_line (h : LnS n b lim m i S o wx wy) (ho : 6 ≤ o) (hi : i < m) : t2 (sh_32 p o wx) (sh_195 166 wy) (LO n b lim m i o wx wy) := by
  rcases Classical.em (∃ j, j < 6 ∧ wdOk (tkA n b m i) j) with ⟨j, hj, hw⟩ | hno
  · have : j = 0 ∨ j = 1 ∨ j = 2 ∨ j = 3 ∨ j = 4 ∨ j = 5 := by omega
    rcases this with q | q | q | q | q | q <;> subst q
    · exact l_rug h ho hi hw
    · exact l_person h ho hi hw
    · exact l_wall h ho hi hw
    · exact l_door h ho hi hw
    · exact l_way h ho hi hw
    · exact l_fade h ho hi hw
  · exact l_none h (fun j hj hw => hno ⟨j, hj, hw⟩)
end L6
