/-! the WAY's loop, on both sides -/
def QW (n : Nat) (b : Nat → Nat) (lim m i0 : Nat) (S : Nat → Int32) (k o : Nat) (u1 u2 : Wd) (r1 : Bool) (w1 : Wd) (r2 : Bool) (w2 : Wd) : Prop := Kp (fun q => q = 1 ∨ q = o + 6 ∨ q = o + 7) u1 w1 ∧ FY u2 w2 ∧ ((r1 = false ∧ r2 = false ∧ FL w1 w2) ∨
  (r1 = true ∧ r2 = true ∧ ∃ i g T, i0 ≤ i ∧ g ≤ 40 ∧ XQ n b lim m i w1 ∧ YS n b lim m i w2 ∧ (∀ a, a ≤ g → onR S (T a)) ∧ XWY S k g T o w1 ∧ wI w2 169 3 = nI (k + 1) ∧ wI w2 169 (177 + k) = nI (g + 1) ∧ (∀ a, a ≤ g → wI w2 169 (183 + 41 * k + a) = nI (T a)) ∧ (∀ j, j < 183 + 41 * k → ¬ j = 3 → ¬ j = 177 + k → wI w2 169 j = S j) ∧ wI w2 166 20 = wI u2 166 20 ∧ wI w2 166 21 = wI u2 166 21 ∧ wL w2 171 = wL u2 171) ∨
  (r1 = true ∧ r2 = false ∧ ∃ i, XQ n b lim m i w1 ∧ sgOk (tkA n b m i) 59 = false ∧ wI w2 166 15 = 1 ∧ wI w2 166 16 = nI (atB n b lim m i)))
section WL
variable {S : Nat → Int32} {w w' : Wd} {o k p n lim m : Nat} {b : Nat → Nat}
theorem qw_bad {i0 : Nat} {u1 u2 w1 w2 : Wd} (hx : Kp (fun q => q = 1 ∨ q = o + 6 ∨ q = o + 7) u1 w1) (hy : FY u2 w2) (f : Int32) (a : Nat) : QW n b lim m i0 S k o u1 u2 false (xBad f a w1) false (yBad f a w2) :=
  ⟨hx.trans ((kp0 (P := fun q => q = 1 ∨ q = o + 6 ∨ q = o + 7) (Or.inl rfl)).sI (Or.inl rfl) _ _), FY_bad hy f a, Or.inl ⟨rfl, rfl, FL_bad f a⟩⟩
theorem d_word {t : Nat × List Nat} {d : Nat} (h : wdOk t d) (c : Nat) : sgOk t c = false := by
  unfold sgOk
  rw [decide_eq_false (by rw [h.1]; decide)]; rfl
theorem way_loop {i0 : Nat} {u1 u2 : Wd} {T0 : Nat → Nat} (hF : WF S) (ho : 6 ≤ o) (ek : S 3 = nI k) (hk : k < 6) (hX : XQ n b lim m i0 u1) (hY : YS n b lim m i0 u2) (hon : onR S (T0 0)) (hx : XWY S k 0 T0 o u1) (hy : YWY S k 0 T0 u2) : t2 (sh_52 p o (nI k) (nI (T0 0)) u1) (itM (fun (v3_20 : Int32) (w22 : Wd) => cl (sh_205 166 59 w22) (fun r24 w23 => if r24 = true then (gd (ib (177 + (nI k)) 429) (stI w23 (166 + 3) (ix (177 + (nI k))) v3_20 (fun w26 => gd (ib 3 429) (gd (ib 3 429) (stI w26 (166 + 3) (ix 3) ((wI w26 (166 + 3) (ix 3)) + 1) (fun w27 => some (.inr (true), w27))))))) else (cl (sh_206 166 w23) (fun r29 w28 => if r29 < 0 then (cl (sh_197 166 1 w28) (fun r32 w31 => some (.inr (r32), w31))) else (cl (sh_191 166 w28) (fun _ w33 => if wI w33 166 11 = 2 then (cl (sh_199 (wI w33 166 14) 1 11 w33) (fun r37 w36 => if r37 = true then (if 41 < v3_20 + (wI w36 166 14) then (cl (sh_197 166 4 w36) (fun r41 w40 => some (.inr (r41), w40))) else (itM (fun (s60 : Int32 × Int32) (w45 : Wd) => match s60 with | (v3_42, v5_43) => if v5_43 < wI w45 166 14 then (gd (ib (((nI (183 + 41 * k)) + v3_42) - 1) 429) (gd (ib 0 429) (gd (ib 1 429) (cl (sh_207 (wI w45 (166 + 3) (ix (((nI (183 + 41 * k)) + v3_42) - 1))) r29 (wI w45 (166 + 3) (ix 0)) (wI w45 (166 + 3) (ix 1)) w45) (fun r48 w47 => if 0 ≤ r48 then (gd (ib (25 + r48) 429) (if wI w47 (166 + 3) (ix (25 + r48)) = 1 then (cl (sh_197 166 5 w47) (fun r52 w51 => some (.inr (.inr (r52)), w51))) else (gd (ib ((nI (183 + 41 * k)) + v3_42) 429) (stI w47 (166 + 3) (ix ((nI (183 + 41 * k)) + v3_42)) r48 (fun w53 => lt (v3_42 + 1 : Int32) (fun v3_54 => lt (v5_43 + 1 : Int32) (fun v5_55 => some (.inl (v3_54, v5_55), w53)))))))) else (cl (sh_197 166 5 w47) (fun r57 w56 => some (.inr (.inr (r57)), w56)))))))) else (cl (sh_191 166 w45) (fun _ w58 => some (.inr (.inl v3_42), w58)))) FU (v3_20, 0) w36)) else (cl (sh_197 166 2 w36) (fun r62 w61 => some (.inr (r62), w61))))) else (cl (sh_197 166 1 w33) (fun r64 w63 => some (.inr (r64), w63))))))))) FU 1 u2) (QW n b lim m i0 S k o u1 u2) := by
  have hT := hX.1.1.2.2.2.1
  unfold sh_52
  refine tp2_it (fun j s1 w1 s2 w2 => ∃ i g T, j ≤ g ∧ g ≤ 40 ∧ i0 ≤ i ∧ s1 = (nI (T g), nI g, nI j) ∧ s2 = nI (g + 1) ∧ XQ n b lim m i w1 ∧ YS n b lim m i w2 ∧ (∀ a, a ≤ g → onR S (T a)) ∧ XWY S k g T o w1 ∧ YWY S k g T w2 ∧ Kp (fun q => q = 1 ∨ q = o + 6 ∨ q = o + 7) u1 w1 ∧ FY u2 w2 ∧ wI w2 166 20 = wI u2 166 20 ∧ wI w2 166 21 = wI u2 166 21 ∧ wL w2 171 = wL u2 171) 41 (by omega) ⟨i0, 0, T0, Nat.le_refl _, by omega, Nat.le_refl _, rfl, rfl, hX, hY, fun a ha => by rw [show a = 0 by omega]; exact hon, hx, hy, Kp.refl, FY.refl, rfl, rfl, rfl⟩ (fun j s1 w1 s2 w2 hI => ?_)
  obtain ⟨i, g, T, hjg, hg, hi, e1, e2, hX1, hY1, hon1, hx1, hy1, kx, fy, f20, f21, f171⟩ := hI
  subst e1; subst e2
  show t2 _ _ _
  refine t2_if1 (show nI j ≤ nI 40 from nle (by omega) (by omega)) (t2_1 (x_dirHere hX1.1) (fun v w' hv => ?_))
  obtain ⟨ew, hv⟩ := hv
  subst ew
  rcases hv with ⟨d, hd, ev, hw⟩ | ⟨ev, hno⟩
  · -- a DIR
    rw [ev]
    refine t2_ifn1 (n_m1 (by omega)) (t2_1 (x_dirHere hX1.1) (fun v2 w3 hv2 => ?_))
    obtain ⟨ew3, hv2⟩ := hv2
    subst ew3
    have ev2 : v2 = nI d := by
      rcases hv2 with ⟨d2, hd2, e, hw2⟩ | ⟨e, hno⟩
      · rw [e, show d2 = d by have := wdL_inj (6 + d2) (by omega) (6 + d) (by omega) (hw2.2.symm.trans hw.2); omega]
      · exact absurd hw (hno d hd)
    rw [ev2]
    refine t2_e2 (y_signHere hY1.1 (c := 59) (by decide)) ?_
    rw [d_word hw 59]
    refine t2_ifn2 (by decide) (t2_2 (y_dirHere hY1.1 hT) (fun v4 w5 hv4 => ?_))
    obtain ⟨ew5, hv4⟩ := hv4
    rw [ew5]
    have ev4 : v4 = nI d := by
      rcases hv4 with ⟨d2, hd2, e, hw2⟩ | ⟨e, hno⟩
      · rw [e, show d2 = d by have := wdL_inj (6 + d2) (by omega) (6 + d) (by omega) (hw2.2.symm.trans hw.2); omega]
      · exact absurd hw (hno d hd)
    rw [ev4]
    refine t2_ifn2 (show ¬ nI d < nI 0 from nnlt (by omega) (by omega)) (j_go hX1 hY1 (fun v5 v6 hX2 hY2 p1 q1 => ?_))
    have kx2 : Kp (fun q => q = 1 ∨ q = o + 6 ∨ q = o + 7) u1 v5 := kx.trans (Kp.mono p1 (fun q y => Or.inl y))
    have fy2 : FY u2 v6 := fy.trans q1.fy
    have nx1 : i ≤ nextN m i := nx_ge
    by_cases k1 : numOk (tkA n b m (nextN m i)) 1 11
    · have vv := tkA_num k1.1
      have rr := numOk_r (lo := 1) (hi := 11) k1 vv (by decide) (by decide)
      obtain ⟨y1, y2⟩ := y_isNum hY2.1
      refine t2_e1 (x_number_ok hX2.1 k1) ?_
      have e14 := y2 k1.1
      generalize hfar : (tkA n b m (nextN m i)).2.headD 0 = far at *
      refine t2_ifn1 (n_m1 vv) (t2_lt1 (t2_if2 (y1.mpr k1.1) ?_))
      rw [e14]
      refine t2_e2 (y_isIn _ _ _ _) (t2_if2 (by rw [decide_eq_true (show (1 : Int32) ≤ nI far from nle (a := 1) rr.1 (by omega)), decide_eq_true (show nI far ≤ (11 : Int32) from nle (b := 11) rr.2 (by decide))]; rfl) ?_)
      rw [nI_p, e14, nI_p]
      by_cases k2 : 40 < g + far
      · refine t2_if1 (show nI 40 < nI (g + far) from nlt k2 (by omega)) (t2_if2 ?_ (j_bad hX2 hY2 4 (fun a => t2_end ?_)))
        · exact (show nI 41 < nI (g + 1 + far) from nlt (by omega) (by omega))
        · exact qw_bad kx2 fy2 4 a
      · have hR5 : XWY S k g T o v5 := by
          refine ⟨hx1.1.kp p1 (fun q h1 h2 => by omega), by rw [p1.I (by omega)]; exact hx1.2.1, fun a ha => by rw [p1.I (by omega)]; exact hx1.2.2 a ha⟩
        have hy6 : YWY S k g T v6 := ⟨fun a ha => by rw [q1.1.I (by decide)]; exact hy1.1 a ha, fun a ha => by rw [q1.1.I (by decide)]; exact hy1.2 a ha⟩
        refine t2_ifn1 (show ¬ nI 40 < nI (g + far) from nnlt (by omega) (by omega)) (t2_ifn2 ?_ ?_)
        · exact (show ¬ nI 41 < nI (g + 1 + far) from nnlt (by omega) (by omega))
        · have yl := y_lays (far := far) hF hk hd (by omega) (hon1 g (Nat.le_refl _)) hY2 hT e14 hy6
          refine t2_e1 (x_reach hF hR5.1 (hon1 g (Nat.le_refl _)) hd (by omega)) ?_
          cases hu : itW S (T g) d far with
          | none =>
            refine t2_if1 rfl (t2_e1 (x_bad hX2.1 5) (tp_some (tp_mono yl (fun r w2 hr => ?_))))
            rcases hr with ⟨u, eu, -⟩ | ⟨-, er, w3, ew3, hf3⟩
            · rw [hu] at eu; cases eu
            · rw [er, ew3]
              exact qw_bad kx2 (fy2.trans hf3) 5 _
          | some u =>
            refine t2_ifn1 (n_m1 (by have := (itW_on hF (hon1 g (Nat.le_refl _)) hu).lt hF; show u < 1000; omega)) ?_
            show tp _ _
            refine x_lays (α := (Int32 × Int32 × Int32) ⊕ Bool) (E := fun v4 w29 => cl (sh_37 1 w29) (fun _ w36 => lt (nI j + 1 : Int32) (fun v6 => some (.inr (.inl (v4, nI (g + far), v6)), w36)))) hF ek hk hd (by omega) (hon1 g (Nat.le_refl _)) hu hR5 (fun w7 hx7 k7 => ?_)
            have hX7 : XQ n b lim m (nextN m i) w7 := hX2.kp k7 (fun q h1 h2 => by omega)
            refine tp_cl (xq_go hX7) (fun _ w8 g8 => tp_lt (tp_some ⟨_, rfl, tp_mono yl (fun r w2 hr => ?_)⟩))
            rcases hr with ⟨u', eu, er, hY9, hy9, fy9, g20, g21, g171⟩ | ⟨eu, -⟩
            · have : u' = u := by rw [hu] at eu; exact (Option.some.inj eu).symm
              subst this
              rw [er]
              obtain ⟨hX8, p8, -⟩ := g8
              have nx2 : nextN m i ≤ nextN m (nextN m i) := nx_ge
              refine ⟨by omega, nextN m (nextN m i), g + far, extW S T g d, by omega, by omega, by omega, ?_, rfl, hX8, hY9, fun a ha => ?_, ?_, hy9, (kx2.trans (k7.mono (fun q y => Or.inr y))).trans (p8.mono (fun q y => Or.inl y)), fy2.trans fy9, ?_, ?_, ?_⟩
              · rw [ext_at hu, nI_s]
              · by_cases y : a ≤ g
                · rw [ext_lo y]; exact hon1 a y
                · have e : itW S (T g) d (a - g) = some (extW S T g d a) := by
                    cases hz : itW S (T g) d (a - g) with
                    | none => rw [itW_mono hz (by omega)] at hu; cases hu
                    | some z =>
                      have := ext_at hz
                      rw [show g + (a - g) = a by omega] at this
                      rw [this]
                  exact itW_on hF (hon1 g (Nat.le_refl _)) e
              · exact ⟨hx7.1.kp p8 (fun q h1 h2 => by omega), by rw [p8.I (by omega)]; exact hx7.2.1, fun a ha => by rw [p8.I (by omega)]; exact hx7.2.2 a ha⟩
              · rw [g20, q1.2 20 (by unfold nxF; omega), f20]
              · rw [g21, q1.2 21 (by unfold nxF; omega), f21]
              · rw [g171, q1.1.L (by decide), f171]
            · rw [hu] at eu; cases eu
    · refine t2_e1 (x_number_no hX2.1 (by decide) k1) (t2_if1 rfl ?_)
      obtain ⟨y1, y2⟩ := y_isNum hY2.1
      by_cases q : (tkA n b m (nextN m i)).1 = 2
      · refine t2_if2 (y1.mpr q) (t2_e2 (y_isIn _ _ _ _) (t2_ifn2 ?_ (t2_e2 (y_bad hY2.1 2) (t2_end ?_))))
        · rw [y2 q]
          intro z
          rw [Bool.and_eq_true, decide_eq_true_eq, decide_eq_true_eq] at z
          exact k1 ⟨q, z.1, z.2⟩
        · rw [show numC (tkA n b m (nextN m i)) = 2 from if_pos q]
          exact qw_bad kx2 fy2 2 _
      · refine t2_ifn2 (fun z => q (y1.mp z)) (t2_e2 (y_bad hY2.1 1) (t2_end ?_))
        rw [show numC (tkA n b m (nextN m i)) = 1 from if_neg q]
        exact qw_bad kx2 fy2 1 _
  · -- none
    rw [ev]
    refine t2_if1 rfl (t2_e2 (y_signHere hY1.1 (c := 59) (by decide)) ?_)
    cases hs : sgOk (tkA n b m i) 59 with
    | true =>
      refine t2_if2 rfl ?_
      rw [l177, nI_p]
      refine t2_gd2 (ib_nI (by omega) (by decide)) (t2_g2 (fun w3 e3 k3 => t2_gd2 (by decide) (t2_gd2 (by decide) (t2_g2 (fun w4 e4 k4 => t2_end ?_)))))
      rw [ix_nI (by omega)] at e3
      have e3' : wI w3 169 = up (wI w2 169) (177 + k) (nI (g + 1)) := e3
      have e4' : wI w4 169 = up (wI w3 169) 3 (wI w3 169 3 + 1) := e4
      refine ⟨kx, fy.trans (FY.h (k3.trans k4)), Or.inr (Or.inl ⟨rfl, rfl, i, g, T, hi, hg, hX1, (hY1.kp k3 (by decide) (by decide) (by decide)).kp k4 (by decide) (by decide) (by decide), hon1, hx1, ?_, ?_, fun a ha => ?_, fun a ha h3 h7 => ?_, ?_, ?_, ?_⟩)⟩
      · rw [e4', up_s, e3', up_o (by omega), hy1.2 3 (by omega), ek, nI_s]
      · rw [e4', up_o (by omega), e3', up_s]
      · rw [e4', up_o (by omega), e3', up_o (by omega)]; exact hy1.1 a ha
      · rw [e4', up_o h3, e3', up_o h7]; exact hy1.2 a ha
      · rw [k4.I (by decide), k3.I (by decide), f20]
      · rw [k4.I (by decide), k3.I (by decide), f21]
      · rw [k4.L (by decide), k3.L (by decide), f171]
    | false =>
      refine t2_ifn2 (by decide) (t2_2 (y_dirHere hY1.1 hT) (fun v4 w5 hv4 => ?_))
      obtain ⟨ew5, hv4⟩ := hv4
      rw [ew5]
      have ev4 : v4 = -1 := by
        rcases hv4 with ⟨d2, hd2, e, hw2⟩ | ⟨e, -⟩
        · exact absurd hw2 (hno d2 hd2)
        · exact e
      rw [ev4]
      refine t2_if2 (by decide) (t2_e2 (y_bad hY1.1 1) (t2_end ?_))
      refine ⟨kx, FY_bad fy 1 _, Or.inr (Or.inr ⟨rfl, rfl, i, hX1, hs, ?_, wI_same⟩)⟩
      rw [wI_other (by decide), wI_same]
end WL
