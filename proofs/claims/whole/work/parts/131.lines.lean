/-! LINES: fade, wall, door -/
section L3
variable {n lim m i o p : Nat} {b : Nat → Nat} {S : Nat → Int32} {w w' w2 wx wy w1 wx' wy' : Wd}
theorem lo_bad2 {f : Int32} {a : Nat} {u1 u2 : Wd} (hx : FX o wx w1) (hy : FY wy w2) (e1 : wI w1 1 = wI (xBad f a u1) 1) (e2 : wI w2 166 = wI (yBad f a u2) 166) : LO n b lim m i o wx wy false w1 false w2 := by
  refine ⟨hx, hy, Or.inr (Or.inl ⟨rfl, rfl, ?_⟩)⟩
  have := @FL_bad u1 u2 f a
  unfold FL at *
  rw [e1, e2]
  exact this
theorem FX.dd {P : Nat → Prop} (h : Kp P w w') (hP : ∀ q, P q → q = 1 ∨ (o ≤ q ∧ q ≤ o + 9)) : FX o w w' := h.mono hP
theorem DH.fade (hD : DH S o wx wy) {F : Nat} (hF : 1 ≤ F ∧ F ≤ 9) (ho : 6 ≤ o) (kx : Kp (fun q => q = 1 ∨ q = o) wx wx') (ex : wI wx' o = up (wI wx o) 2 (nI F)) (ey : wI wy' 169 = up S 6 (nI F)) (ky : Kp (fun q => q = 166 ∨ q = 169) wy wy') (e20 : wI wy' 166 20 = wI wy 166 20) (e21 : wI wy' 166 21 = 1) : DH (up S 6 (nI F)) o wx' wy' := by
  obtain ⟨d1, d2, d3, d4, d5, d6, d7, d8⟩ := hD
  have eo : ∀ j, ¬ j = 6 → up S 6 (nI F) j = S j := fun j hj => up_o hj
  have exo : ∀ j, ¬ j = 2 → wI wx' o j = wI wx o j := fun j hj => by rw [ex, up_o hj]
  have hp : 0 < nI F := jp (by omega) (by omega)
  refine ⟨ey, ?_, ?_, ?_, ?_, ?_, ?_, ?_⟩
  · obtain ⟨f0, f2, f3, f4, f5, f6, f7, f8, f9, f10⟩ := d2
    refine ⟨by rw [eo 0 (by decide), eo 1 (by decide)]; exact f0, by rw [eo 2 (by decide)]; exact f2, by rw [eo 3 (by decide)]; exact f3, by rw [eo 4 (by decide)]; exact f4, by rw [eo 5 (by decide)]; exact f5, ⟨F, up_s, hF⟩, fun k hk => ?_, fun t ht => ?_, fun k hk => ?_, fun k hk => ?_⟩
    · rw [eo 2 (by decide)] at hk
      rw [eo _ (by omega), eo _ (by omega), eo _ (by omega)]; exact f7 k hk
    · rw [eo _ (by omega)]; exact f8 t ht
    · rw [eo 5 (by decide)] at hk
      obtain ⟨t, e, q⟩ := f9 k hk
      exact ⟨t, by rw [eo _ (by omega)]; exact e, by unfold onR at *; rw [eo 0 (by decide), eo 1 (by decide)]; exact q⟩
    · rw [eo 3 (by decide)] at hk
      obtain ⟨n, en, h1, h2, hi⟩ := f10 k hk
      refine ⟨n, by rw [eo _ (by omega)]; exact en, h1, h2, fun i hi2 => ?_⟩
      obtain ⟨t, e, q⟩ := hi i hi2
      exact ⟨t, by rw [eo _ (by omega)]; exact e, by unfold onR at *; rw [eo 0 (by decide), eo 1 (by decide)]; exact q⟩
  · obtain ⟨c0, c1, c2, c3, c4, c5, c6, c7, c8, c9, c10⟩ := d3
    refine ⟨by rw [exo 0 (by decide), eo 0 (by decide)]; exact c0, by rw [exo 1 (by decide), eo 1 (by decide)]; exact c1, by rw [exo 3 (by decide), eo 2 (by decide)]; exact c2, by rw [exo 4 (by decide), eo 3 (by decide)]; exact c3, by rw [exo 5 (by decide), eo 4 (by decide)]; exact c4, by rw [exo 6 (by decide), eo 5 (by decide)]; exact c5, ?_, fun k hk => ?_, fun t ht => ?_, fun k hk => ?_, fun k hk => ?_⟩
    · rw [ex, up_s, up_s, if_neg (fun e => by rw [e] at hp; exact absurd hp (by decide))]
    · rw [eo 2 (by decide)] at hk
      rw [kx.I (by omega), kx.I (by omega), kx.I (by omega), eo _ (by omega), eo _ (by omega), eo _ (by omega)]
      exact c7 k hk
    · rw [kx.I (by omega), eo _ (by omega)]; exact c8 t ht
    · rw [eo 5 (by decide)] at hk
      rw [kx.I (by omega), eo _ (by omega)]; exact c9 k hk
    · rw [eo 3 (by decide)] at hk
      rw [kx.I (by omega), kx.I (by omega), eo _ (by omega)]
      refine ⟨(c10 k hk).1, fun i hi => ?_⟩
      rw [eo _ (by omega)]
      exact (c10 k hk).2 i hi
  · have := (d4.kp kx (fun q h1 h2 => by omega)).cong (eo 2 (by decide)) (eo 3 (by decide))
    rw [ky.L (by decide)]; exact this
  · intro k l hk hl
    rw [eo 5 (by decide)] at hk hl
    rw [eo _ (by omega), eo _ (by omega)]
    exact d5 k l hk hl
  · rw [e20, exo 0 (by decide)]; exact d6
  · rw [e21, ex, up_s]; exact ⟨fun z => absurd z (by decide), fun z => absurd hp z⟩
  · rw [ex, up_s]; exact Or.inr hp
theorem l_fade (h : LnS n b lim m i S o wx wy) (ho : 6 ≤ o) (hi : i < m) (hw : wdOk (tkA n b m i) 5) : t2 (sh_32 p o wx) (sh_195 166 wy) (LO n b lim m i o wx wy) := by
  obtain ⟨hX, hY, hD⟩ := h
  have hT := hX.1.1.2.2.2.1
  rw [x_l5 hX.1 hw]
  unfold sh_57 sh_195
  refine t2_e2 (y_wd hY hT (by decide) hw (by decide) l_rg) (t2_ifn2 (by decide) (t2_e2 (y_wd hY hT (by decide) hw (by decide) l_pe) (t2_ifn2 (by decide) (t2_e2 (y_wd hY hT (by decide) hw (by decide) l_wl) (t2_ifn2 (by decide) (t2_e2 (y_wd hY hT (by decide) hw (by decide) l_dr) (t2_ifn2 (by decide) (t2_e2 (y_wd hY hT (by decide) hw (by decide) l_wy) (t2_ifn2 (by decide) (t2_e2 (y_wd hY hT (by decide) hw (by decide) l_fd) (t2_if2 (by decide) ?_)))))))))))
  by_cases h0 : 0 < wI wx o 2
  · exact t2_if1 h0 (t2_ifn2 (fun z => hD.2.2.2.2.2.2.1.mp z h0) (j_bad hX hY 3 (fun a => t2_end (lo_bad FX.refl FY.refl 3 a))))
  · have k0 : Kp (fun q => q = 166) wy (sI wy 166 21 1) := kp0 rfl
    have y0 : FY wy (sI wy 166 21 1) := FY.f (P := fun j => j = 21) k0 (fun j hj => wI_other hj) (fun j hj => by unfold lyF; unfold nxF at *; omega)
    refine t2_ifn1 h0 (t2_if2 (hD.2.2.2.2.2.2.1.mpr h0) (t2_s2 (j_go hX (hY.f (j := 21) (v := 1) (by decide)) (fun v1 v2 hX1 hY1 p1 q1 => j_take 1 9 (by decide) (by decide) hX1 hY1 (fun f a => ?_) (fun v u1 u2 r1 r2 hX2 hY2 e18 p2 q2 => ?_)))))
    · exact t2_if1 rfl (t2_ifn2 (by decide) (t2_end (lo_bad (FX.t p1) (y0.trans q1.fy) f a)))
    · refine t2_ifn1 (n_m1 (by omega)) (t2_g1 (fun u3 e3 k3 => t2_if2 rfl (t2_gd2 (by decide) (t2_g2 (fun u4 e4 k4 => t2_end ?_)))))
      have kx : Kp (fun q => q = 1 ∨ q = o) wx u3 := ((p1.trans p2).mono (fun q y => Or.inl y)).trans (k3.mono (fun q y => Or.inr y))
      have ky : Kp (fun q => q = 166 ∨ q = 169) wy u4 := ((k0.trans (q1.1.trans q2.1)).mono (fun q y => Or.inl y)).trans (k4.mono (fun q y => Or.inr y))
      refine lo_on (i' := nextN m (nextN m i)) (FX.dd kx (fun q y => by omega)) (((y0.trans q1.fy).trans q2.fy).trans (FY.h k4)) ?_ ⟨hX2.kp k3 (fun q hq hq2 => by omega), hY2.kp k4 (by decide) (by decide) (by decide), hD.fade ⟨r1, r2⟩ ho kx ?_ ?_ ky ?_ ?_⟩
      · have := nx_gt hi
        have := @nx_ge m (nextN m i)
        omega
      · rw [e3, p2.I (by omega), p1.I (by omega)]
      · rw [show (169 : Nat) = 166 + 3 from rfl, e4, e18, q2.1.I (by decide), q1.1.I (by decide), k0.I (by decide), hD.1]; rfl
      · rw [k4.I (by decide), q2.2 20 (by unfold nxF; omega), q1.2 20 (by unfold nxF; omega), wI_other (by decide)]
      · rw [k4.I (by decide), q2.2 21 (by unfold nxF; omega), q1.2 21 (by unfold nxF; omega), wI_same]
theorem DH.wall (hD : DH S o wx wy) {t a : Nat} (ht : t < 144) (ea : S 4 = nI a) (ha : a < 30) (ho : 6 ≤ o) (kx : Kp (fun q => q = 1 ∨ q = o ∨ q = o + 8) wx wx') (ex : wI wx' o = up (wI wx o) 5 (nI (a + 1))) (ex8 : wI wx' (o + 8) = up (wI wx (o + 8)) t 1) (ey : wI wy' 169 = up (up S (25 + t) 1) 4 (nI (a + 1))) (ky : Kp (fun q => q = 166 ∨ q = 169) wy wy') (e20 : wI wy' 166 20 = wI wy 166 20) (e21 : wI wy' 166 21 = wI wy 166 21) : DH (up (up S (25 + t) 1) 4 (nI (a + 1))) o wx' wy' := by
  obtain ⟨d1, d2, d3, d4, d5, d6, d7, d8⟩ := hD
  have eo : ∀ j, ¬ j = 25 + t → ¬ j = 4 → up (up S (25 + t) 1) 4 (nI (a + 1)) j = S j := fun j h1 h2 => by rw [up_o h2, up_o h1]
  have e4 : up (up S (25 + t) 1) 4 (nI (a + 1)) 4 = nI (a + 1) := up_s
  have et : up (up S (25 + t) 1) 4 (nI (a + 1)) (25 + t) = 1 := by rw [up_o (by omega), up_s]
  have exo : ∀ j, ¬ j = 5 → wI wx' o j = wI wx o j := fun j hj => by rw [ex, up_o hj]
  refine ⟨ey, ?_, ?_, ?_, ?_, ?_, ?_, ?_⟩
  · obtain ⟨f0, f2, f3, f4, f5, f6, f7, f8, f9, f10⟩ := d2
    refine ⟨by rw [eo 0 (by omega) (by decide), eo 1 (by omega) (by decide)]; exact f0, by rw [eo 2 (by omega) (by decide)]; exact f2, by rw [eo 3 (by omega) (by decide)]; exact f3, ⟨a + 1, e4, by omega⟩, by rw [eo 5 (by omega) (by decide)]; exact f5, by rw [eo 6 (by omega) (by decide)]; exact f6, fun k hk => ?_, fun u hu => ?_, fun k hk => ?_, fun k hk => ?_⟩
    · rw [eo 2 (by omega) (by decide)] at hk
      obtain ⟨P, eP, hP⟩ := f2
      have hk6 : k < 6 := by rw [eP, ix_nI (by omega)] at hk; omega
      rw [eo _ (by omega) (by omega), eo _ (by omega) (by omega), eo _ (by omega) (by omega)]; exact f7 k hk
    · by_cases q : u = t
      · rw [q, et]; exact Or.inr rfl
      · rw [eo _ (by omega) (by omega)]; exact f8 u hu
    · rw [eo 5 (by omega) (by decide)] at hk
      obtain ⟨u, e, q⟩ := f9 k hk
      exact ⟨u, by rw [eo _ (by omega) (by omega)]; exact e, by unfold onR at *; rw [eo 0 (by omega) (by decide), eo 1 (by omega) (by decide)]; exact q⟩
    · rw [eo 3 (by omega) (by decide)] at hk
      obtain ⟨n, en, h1, h2, hi⟩ := f10 k hk
      refine ⟨n, by rw [eo _ (by omega) (by omega)]; exact en, h1, h2, fun i hi2 => ?_⟩
      obtain ⟨u, e, q⟩ := hi i hi2
      exact ⟨u, by rw [eo _ (by omega) (by omega)]; exact e, by unfold onR at *; rw [eo 0 (by omega) (by decide), eo 1 (by omega) (by decide)]; exact q⟩
  · obtain ⟨P, eP, hP⟩ := d2.2.1
    obtain ⟨c0, c1, c2, c3, c4, c5, c6, c7, c8, c9, c10⟩ := d3
    refine ⟨by rw [exo 0 (by decide), eo 0 (by omega) (by decide)]; exact c0, by rw [exo 1 (by decide), eo 1 (by omega) (by decide)]; exact c1, by rw [exo 3 (by decide), eo 2 (by omega) (by decide)]; exact c2, by rw [exo 4 (by decide), eo 3 (by omega) (by decide)]; exact c3, by rw [ex, up_s, e4], by rw [exo 6 (by decide), eo 5 (by omega) (by decide)]; exact c5, by rw [exo 2 (by decide), eo 6 (by omega) (by decide)]; exact c6, fun k hk => ?_, fun u hu => ?_, fun k hk => ?_, fun k hk => ?_⟩
    · rw [eo 2 (by omega) (by decide)] at hk
      have hk6 : k < 6 := by rw [eP, ix_nI (by omega)] at hk; omega
      rw [kx.I (by omega), kx.I (by omega), kx.I (by omega), eo _ (by omega) (by omega), eo _ (by omega) (by omega), eo _ (by omega) (by omega)]
      exact c7 k hk
    · rw [ex8]
      by_cases q : u = t
      · rw [q, up_s, et]
      · rw [up_o q, eo _ (by omega) (by omega)]; exact c8 u hu
    · rw [eo 5 (by omega) (by decide)] at hk
      rw [kx.I (by omega), eo _ (by omega) (by omega)]; exact c9 k hk
    · rw [eo 3 (by omega) (by decide)] at hk
      rw [kx.I (by omega), kx.I (by omega), eo _ (by omega) (by omega)]
      refine ⟨(c10 k hk).1, fun i hi => ?_⟩
      rw [eo _ (by omega) (by omega)]
      exact (c10 k hk).2 i hi
  · have := (d4.kp kx (fun q h1 h2 => by omega)).cong (eo 2 (by omega) (by decide)) (eo 3 (by omega) (by decide))
    rw [ky.L (by decide)]; exact this
  · intro k l hk hl
    rw [eo 5 (by omega) (by decide)] at hk hl
    rw [eo _ (by omega) (by omega), eo _ (by omega) (by omega)]
    exact d5 k l hk hl
  · rw [e20, exo 0 (by decide)]; exact d6
  · rw [e21, exo 2 (by decide)]; exact d7
  · rw [exo 2 (by decide)]; exact d8
theorem l_wall (h : LnS n b lim m i S o wx wy) (ho : 6 ≤ o) (hi : i < m) (hw : wdOk (tkA n b m i) 2) : t2 (sh_32 p o wx) (sh_195 166 wy) (LO n b lim m i o wx wy) := by
  obtain ⟨hX, hY, hD⟩ := h
  have hT := hX.1.1.2.2.2.1
  obtain ⟨a, ea, ha⟩ := hD.2.1.2.2.2.1
  have x5 : wI wx o 5 = nI a := hD.2.2.1.2.2.2.2.1.trans ea
  have y4 : wI wy 169 4 = nI a := by rw [hD.1]; exact ea
  rw [x_l2 hX.1 hw]
  unfold sh_45 sh_195
  refine t2_e2 (y_wd hY hT (by decide) hw (by decide) l_rg) (t2_ifn2 (by decide) (t2_e2 (y_wd hY hT (by decide) hw (by decide) l_pe) (t2_ifn2 (by decide) (t2_e2 (y_wd hY hT (by decide) hw (by decide) l_wl) (t2_if2 (by decide) (t2_gd2 (by decide) ?_))))))
  rw [x5, show wI wy (166 + 3) (ix 4) = nI a from y4]
  by_cases h0 : a = 30
  · subst h0
    exact t2_if1 (by decide) (t2_if2 (by decide) (j_bad hX hY 4 (fun a => t2_end (lo_bad FX.refl FY.refl 4 a))))
  · refine t2_ifn1 (show ¬ nI 30 ≤ nI a from nnle (by omega) (by omega)) (t2_ifn2 (n_ne (b := 30) h0 (by omega) (by decide)) (j_go hX hY (fun v1 v2 hX1 hY1 p1 q1 => j_xy hX1 hY1 (hD.pp ho p1 q1) ho (fun f a u1 u2 p2 q2 => ?_) (fun t u1 u2 ht ht2 hX2 hY2 e18 p2 q2 => ?_))))
    · exact t2_ifn1 m1_n0 (t2_ifn2 (by decide) (t2_end (lo_bad (FX.t (p1.trans p2)) (q1.trans q2).fy f a)))
    · have hD2 := (hD.pp ho p1 q1).pp ho p2 q2
      refine t2_if1 (n0le (by omega)) (t2_ifn1 (show ¬ nI 144 ≤ nI t from nnle (by omega) (by omega)) (t2_gd1 (ib_nI ht2 (by decide)) (t2_if2 rfl ?_)))
      rw [ix_nI (show t < 2147483648 by omega), e18, l25, nI_p, ix_nI (show 25 + t < 2147483648 by omega)]
      refine t2_gd2 (ib_nI (by omega) (by decide)) ?_
      rw [hD2.2.2.1.2.2.2.2.2.2.2.2.1 t ht2, show wI u2 (166 + 3) (25 + t) = S (25 + t) from congrFun hD2.1 _]
      rcases hD.2.1.2.2.2.2.2.2.2.1 t ht2 with z | z
      · rw [z]
        refine t2_if1 rfl (t2_gd1 (ib_nI ht2 (by decide)) (t2_g1 (fun u3 e3 k3 => t2_g1 (fun u4 e4 k4 => t2_ifn2 (by decide) (t2_gd2 (ib_nI (by omega) (by decide)) (t2_g2 (fun u5 e5 k5 => t2_gd2 (by decide) (t2_gd2 (by decide) (t2_g2 (fun u6 e6 k6 => j_go ((hX2.kp k3 (fun q hq hq2 => by omega)).kp k4 (fun q hq hq2 => by omega)) ((hY2.kp k5 (by decide) (by decide) (by decide)).kp k6 (by decide) (by decide) (by decide)) (fun u7 u8 hX7 hY8 p7 q8 => t2_end ?_)))))))))))
        have kx : Kp (fun q => q = 1 ∨ q = o ∨ q = o + 8) wx u7 := (((p1.trans p2).mono (fun q y => Or.inl y)).trans ((k3.mono (fun q y => Or.inr (Or.inr y))).trans (k4.mono (fun q y => Or.inr (Or.inl y))))).trans (p7.mono (fun q y => Or.inl y))
        have ky : Kp (fun q => q = 166 ∨ q = 169) wy u8 := (((q1.1.trans q2.1).mono (fun q y => Or.inl y)).trans ((k5.trans k6).mono (fun q y => Or.inr y))).trans (q8.1.mono (fun q y => Or.inl y))
        refine lo_on (i' := nextN m (nextN m (nextN m i))) (FX.dd kx (fun q y => by omega)) ((((q1.trans q2).fy).trans (FY.h (k5.trans k6))).trans q8.fy) ?_ ⟨hX7, hY8, hD.wall ht2 ea (by omega) ho kx ?_ ?_ ?_ ky ?_ ?_⟩
        · have := nx_gt hi
          have := @nx_ge m (nextN m i)
          have := @nx_ge m (nextN m (nextN m i))
          omega
        · rw [p7.I (by omega), e4, k3.I (by omega), p2.I (by omega), p1.I (by omega), x5, nI_s]
        · rw [p7.I (by omega), k4.I (by omega), e3, p2.I (by omega), p1.I (by omega)]
        · have e5' : wI u5 169 = up S (25 + t) 1 := by rw [show (169 : Nat) = 166 + 3 from rfl, e5, show wI u2 (166 + 3) = S from hD2.1]
          rw [q8.1.I (by decide), show (169 : Nat) = 166 + 3 from rfl, e6, show wI u5 (166 + 3) = up S (25 + t) 1 from e5', show ix 4 = 4 from rfl, up_o (by omega), ea, nI_s]
        · rw [q8.2 20 (by unfold nxF; omega), k6.I (by decide), k5.I (by decide), q2.2 20 (by unfold nxF; omega), q1.2 20 (by unfold nxF; omega)]
        · rw [q8.2 21 (by unfold nxF; omega), k6.I (by decide), k5.I (by decide), q2.2 21 (by unfold nxF; omega), q1.2 21 (by unfold nxF; omega)]
      · rw [z]
        exact t2_ifn1 (by decide) (t2_if2 rfl (j_bad hX2 hY2 3 (fun a => t2_end (lo_bad (FX.t (p1.trans p2)) (q1.trans q2).fy 3 a))))
end L3
