/-! LINES: none, rug, fade -/
section L1
variable {n lim m i o p : Nat} {b : Nat → Nat} {S : Nat → Int32} {w w' w2 wx wy w1 : Wd}
theorem l_none (h : LnS n b lim m i S o wx wy) (hn : ∀ j, j < 6 → ¬ wdOk (tkA n b m i) j) : tp (sh_32 p o wx) (fun r1 w1 => tp (sh_195 166 wy) (LO n b lim m i o wx wy r1 w1)) := by
  obtain ⟨hX, hY, hD⟩ := h
  have hT := hX.1.1.2.2.2.1
  have ex : sh_32 p o wx = some (false, xBad 1 (atB n b lim m i) wx) := by
    obtain ⟨v, w', e, e2, hv⟩ := x_wordHere hX.1
    subst e2
    unfold sh_32
    rw [cl_e e]
    have hz : zwk v = true ∧ ∀ j, j < 6 → ¬ v = some (1010 + j) := by
      rcases hv with ⟨j, hj, ev, hw⟩ | ⟨ev, -⟩
      · subst ev
        refine ⟨by unfold zwk; simp; omega, fun k hk q => ?_⟩
        have : j = k := by have := Option.some.inj q; omega
        subst this
        exact hn j hk hw
      · subst ev
        exact ⟨rfl, fun k _ q => by cases q⟩
    obtain ⟨z, zn⟩ := hz
    rw [gd_t z, gd_t (by decide), if_neg (zn 0 (by decide)), gd_t z, gd_t (by decide), if_neg (zn 1 (by decide)), gd_t z, gd_t (by decide), if_neg (zn 2 (by decide)), gd_t z, gd_t (by decide), if_neg (zn 3 (by decide)), gd_t z, gd_t (by decide), if_neg (zn 4 (by decide)), gd_t z, gd_t (by decide), if_neg (zn 5 (by decide)), cl_e (x_bad hX.1 1)]
    rfl
  refine tp_eq ex ?_
  unfold sh_195
  refine tp_ce (y_wdn hY hT hn (by decide) l_rg) (tp_ifn (by decide) (tp_ce (y_wdn hY hT hn (by decide) l_pe) (tp_ifn (by decide) (tp_ce (y_wdn hY hT hn (by decide) l_wl) (tp_ifn (by decide) (tp_ce (y_wdn hY hT hn (by decide) l_dr) (tp_ifn (by decide) (tp_ce (y_wdn hY hT hn (by decide) l_wy) (tp_ifn (by decide) (tp_ce (y_wdn hY hT hn (by decide) l_fd) (tp_ifn (by decide) (tp_ce (y_bad hY.1 1) (tp_some ?_)))))))))))))
  exact lo_bad FX.refl FY.refl 1 _
theorem WF.rug (hF : WF S) (h0 : S 0 = nI 0) {W H : Nat} (hW : W ≤ 12) (hH : H ≤ 12) : WF (up (up S 0 (nI W)) 1 (nI H)) ∧ ix (S 5) = 0 ∧ ix (S 3) = 0 := by
  have no : ∀ t, ¬ onR S t := fun t q => by
    have := q.1
    rw [h0] at this
    exact absurd this (by show ¬ t % 12 < 0; omega)
  have e5 : ix (S 5) = 0 := by
    rcases Nat.eq_zero_or_pos (ix (S 5)) with q | q
    · exact q
    · obtain ⟨t, -, ht⟩ := hF.2.2.2.2.2.2.2.2.1 0 q
      exact absurd ht (no t)
  have e3 : ix (S 3) = 0 := by
    rcases Nat.eq_zero_or_pos (ix (S 3)) with q | q
    · exact q
    · obtain ⟨k, -, hk, -, hi⟩ := hF.2.2.2.2.2.2.2.2.2 0 q
      obtain ⟨t, -, ht⟩ := hi 0 (by omega)
      exact absurd ht (no t)
  have eo : ∀ j, 2 ≤ j → up (up S 0 (nI W)) 1 (nI H) j = S j := fun j hj => by rw [up_o (by omega), up_o (by omega)]
  obtain ⟨f0, f2, f3, f4, f5, f6, f7, f8, f9, f10⟩ := hF
  refine ⟨⟨⟨W, H, by rw [up_o (by decide), up_s], up_s, hW, hH⟩, by rw [eo 2 (by decide)]; exact f2, by rw [eo 3 (by decide)]; exact f3, by rw [eo 4 (by decide)]; exact f4, by rw [eo 5 (by decide)]; exact f5, by rw [eo 6 (by decide)]; exact f6, fun k hk => ?_, fun t ht => ?_, fun k hk => ?_, fun k hk => ?_⟩, e5, e3⟩
  · rw [eo 2 (by decide)] at hk
    rw [eo _ (by omega), eo _ (by omega), eo _ (by omega)]
    exact f7 k hk
  · rw [eo _ (by omega)]; exact f8 t ht
  · rw [eo 5 (by decide), e5] at hk; omega
  · rw [eo 3 (by decide), e3] at hk; omega
theorem DH.rug {wx' wy' : Wd} (hD : DH S o wx wy) (h0 : ¬ 0 < wI wx o 0) {W H : Nat} (hW : 2 ≤ W ∧ W ≤ 12) (hH : 2 ≤ H ∧ H ≤ 12) (kx : Kp (fun q => q = 1 ∨ q = o) wx wx') (ex : wI wx' o = up (up (wI wx o) 0 (nI W)) 1 (nI H)) (ho : 6 ≤ o) (ey : wI wy' 169 = up (up S 0 (nI W)) 1 (nI H)) (ky : Kp (fun q => q = 166 ∨ q = 169) wy wy') (e20 : wI wy' 166 20 = 1) (e21 : wI wy' 166 21 = wI wy 166 21) : DH (up (up S 0 (nI W)) 1 (nI H)) o wx' wy' := by
  obtain ⟨d1, d2, d3, d4, d5, d6, d7, d8⟩ := hD
  have hS0 : S 0 = nI 0 := by
    obtain ⟨a, c, ea, -, ha, -⟩ := d2.1
    rw [d3.1, ea] at h0
    rcases Nat.eq_zero_or_pos a with q | q
    · rw [ea, q]
    · exact absurd (jp q (by omega)) h0
  obtain ⟨hF', h5, h3⟩ := d2.rug hS0 hW.2 hH.2
  have eo : ∀ j, 2 ≤ j → up (up S 0 (nI W)) 1 (nI H) j = S j := fun j hj => by rw [up_o (by omega), up_o (by omega)]
  have exo : ∀ j, 2 ≤ j → wI wx' o j = wI wx o j := fun j hj => by rw [ex, up_o (by omega), up_o (by omega)]
  refine ⟨ey, hF', ?_, ?_, ?_, ?_, ?_, ?_⟩
  · obtain ⟨c0, c1, c2, c3, c4, c5, c6, c7, c8, c9, c10⟩ := d3
    refine ⟨by rw [ex, up_o (by decide), up_s, up_o (by decide), up_s], by rw [ex, up_s, up_s], by rw [exo 3 (by decide), eo 2 (by decide)]; exact c2, by rw [exo 4 (by decide), eo 3 (by decide)]; exact c3, by rw [exo 5 (by decide), eo 4 (by decide)]; exact c4, by rw [exo 6 (by decide), eo 5 (by decide)]; exact c5, by rw [exo 2 (by decide), eo 6 (by decide)]; exact c6, fun k hk => ?_, fun t ht => ?_, fun k hk => ?_, fun k hk => ?_⟩
    · rw [eo 2 (by decide)] at hk
      rw [kx.I (by omega), kx.I (by omega), kx.I (by omega), eo _ (by omega), eo _ (by omega), eo _ (by omega)]
      exact c7 k hk
    · rw [kx.I (by omega), eo _ (by omega)]; exact c8 t ht
    · rw [eo 5 (by decide), h5] at hk; omega
    · rw [eo 3 (by decide), h3] at hk; omega
  · have := (d4.kp kx (fun q h1 h2 => by omega)).cong (eo 2 (by decide)) (eo 3 (by decide))
    rw [ky.L (by decide)]; exact this
  · intro k l hk
    rw [eo 5 (by decide), h5] at hk; omega
  · rw [e20, ex, up_o (by decide), up_s]
    exact ⟨fun z => absurd z (by decide), fun z => absurd (jp (show 0 < W by omega) (by omega)) z⟩
  · rw [e21, exo 2 (by decide)]; exact d7
  · rw [exo 2 (by decide)]; exact d8
theorem l_rug (h : LnS n b lim m i S o wx wy) (ho : 6 ≤ o) (hi : i < m) (hw : wdOk (tkA n b m i) 0) : tp (sh_32 p o wx) (fun r1 w1 => tp (sh_195 166 wy) (LO n b lim m i o wx wy r1 w1)) := by
  obtain ⟨hX, hY, hD⟩ := h
  have hT := hX.1.1.2.2.2.1
  rw [x_l0 hX.1 hw]
  unfold sh_35
  by_cases h0 : 0 < wI wx o 0
  · refine tp_if h0 (tp_ce (x_bad hX.1 3) (tp_some ?_))
    unfold sh_195
    refine tp_ce (y_wd hY hT (by decide) hw (by decide) l_rg) (tp_if (by decide) (tp_ifn (fun z => hD.2.2.2.2.2.1.mp z h0) (tp_ce (y_bad hY.1 3) (tp_some ?_))))
    exact lo_bad FX.refl FY.refl 3 _
  · refine tp_ifn h0 (tp_cl (xq_go hX) (fun _ w1 g1 => ?_))
    obtain ⟨hX1, hk1, -⟩ := g1
    have yprog : ∀ {Q : Bool → Wd → Prop}, (∀ w2, YS n b lim m (nextN m i) w2 → wI w2 166 20 = 1 → FY wy w2 → Kp (fun q => q = 166) wy w2 → Fm (fun j => nxF j ∨ j = 20) wy w2 → tp (itM (fun (v1_8 : Int32) (w10 : Wd) => if v1_8 < 2 then (cl (sh_198 166 2 12 w10) (fun r13 w12 => if r13 = true then (gd (ib (0 + v1_8) 429) (stI w12 (166 + 3) (ix (0 + v1_8)) (wI w12 166 18) (fun w15 => lt (v1_8 + 1 : Int32) (fun v1_16 => some (.inl v1_16, w15))))) else (some (.inr (false), w12)))) else (some (.inr (true), w10))) FU 0 w2) Q) → tp (sh_195 166 wy) Q := by
      intro Q k
      unfold sh_195
      refine tp_ce (y_wd hY hT (by decide) hw (by decide) l_rg) (tp_if (by decide) (tp_if (hD.2.2.2.2.2.1.mpr h0) (tp_stI ?_)))
      have k0 : Kp (fun q => q = 166) wy (sI wy 166 20 1) := kp0 rfl
      refine tp_cl (ys_go (hY.f (j := 20) (v := 1) (by decide)) hT) (fun _ w2 g2 => ?_)
      obtain ⟨hY2, hk2, hf2⟩ := g2
      have kk := k0.trans hk2
      have ff : Fm (fun j => nxF j ∨ j = 20) wy w2 := fun j hj => by rw [hf2 j (fun q => hj (Or.inl q)), wI_other (fun q => hj (Or.inr q))]
      exact k w2 hY2 (by rw [hf2 20 (by unfold nxF; omega), wI_same]) (FY.f kk ff (fun j hj => by unfold lyF; unfold nxF at *; omega)) kk ff
    by_cases k1 : numOk (tkA n b m (nextN m i)) 2 12
    · refine tp_cl (xq_take hX1 k1) (fun v w3 g3 => ?_)
      obtain ⟨ev, hX3, hk3, -⟩ := g3
      have v1 := tkA_num k1.1
      refine tp_ifn (by rw [ev, i_eq, i_nI (by omega)]; show ¬ (((tkA n b m (nextN m i)).2.headD 0 : Nat) : Int) = -1; omega) ?_
      have yone : ∀ {Q : Bool → Wd → Prop}, (∀ w2, YS n b lim m (nextN m (nextN m i)) w2 → wI w2 169 = up S 0 (nI ((tkA n b m (nextN m i)).2.headD 0)) → FY wy w2 → wI w2 166 20 = 1 → wI w2 166 21 = wI wy 166 21 → Kp (fun q => q = 166 ∨ q = 169) wy w2 → tp (cl (sh_198 166 2 12 w2) (fun r13 w12 => if r13 = true then (gd (ib (0 + (0 + 1)) 429) (stI w12 (166 + 3) (ix (0 + (0 + 1))) (wI w12 166 18) (fun w15 => lt ((0 + 1) + 1 : Int32) (fun v1_16 => some ((.inl v1_16 : Int32 ⊕ Bool), w15))))) else (some (.inr (false), w12)))) (lpQ (fun s2 w2 => tp (if s2 < 2 then (cl (sh_198 166 2 12 w2) (fun r13 w12 => if r13 = true then (gd (ib (0 + s2) 429) (stI w12 (166 + 3) (ix (0 + s2)) (wI w12 166 18) (fun w15 => lt (s2 + 1 : Int32) (fun v1_16 => some ((.inl v1_16 : Int32 ⊕ Bool), w15))))) else (some (.inr (false), w12)))) else (some (.inr (true), w2))) (lpQ (fun _ _ => False) Q)) Q)) → tp (sh_195 166 wy) Q := by
        intro Q k
        refine yprog (fun w2 hY2 e20 hf2 hk2 hm2 => it_2 (tp_if (by decide) (tp_cl (ys_take hY2 hT k1) (fun v4 w4 g4 => ?_))))
        obtain ⟨ev4, e18, hY4, hk4, hf4⟩ := g4
        refine tp_if ev4 (tp_gd (by decide) (tp_stG (fun w5 e5 hk5 => tp_lt (tp_on ?_))))
        refine tp_if (by decide) (k w5 (hY4.kp hk5 (by decide) (by decide) (by decide)) ?_ ((hf2.trans (FY.f hk4 hf4 (fun j hj => by unfold lyF; unfold nxF at *; omega))).trans (FY.h hk5)) ?_ ?_ ?_)
        · rw [show (169 : Nat) = 166 + 3 from rfl, e5, e18, hk4.I (by decide), hk2.I (by decide), hD.1]; rfl
        · rw [hk5.I (by decide), hf4 20 (by unfold nxF; omega)]; exact e20
        · rw [hk5.I (by decide), hf4 21 (by unfold nxF; omega), hm2 21 (by unfold nxF; omega)]
        · exact ((hk2.trans hk4).mono (fun q y => Or.inl y)).trans (hk5.mono (fun q y => Or.inr y))
      by_cases k2 : numOk (tkA n b m (nextN m (nextN m i))) 2 12
      · refine tp_cl (xq_take hX3 k2) (fun v5 w5 g5 => ?_)
        obtain ⟨ev5, hX5, hk5, -⟩ := g5
        have v2 := tkA_num k2.1
        refine tp_ifn (by rw [ev5, i_eq, i_nI (by omega)]; show ¬ (((tkA n b m (nextN m (nextN m i))).2.headD 0 : Nat) : Int) = -1; omega) ?_
        refine tp_stG (fun w6 e6 hk6 => tp_stG (fun w7 e7 hk7 => tp_some ?_))
        refine yone (fun u1 hU1 e1 hf1 e20 e21 hku => tp_cl (ys_take hU1 hT k2) (fun v8 u2 g8 => ?_))
        obtain ⟨ev8, e18, hU2, hku2, hfu2⟩ := g8
        refine tp_if ev8 (tp_gd (by decide) (tp_stG (fun u3 eu3 hku3 => tp_lt (tp_on (tp_ifn (by decide) (tp_out ?_))))))
        have kx : Kp (fun q => q = 1 ∨ q = o) wx w7 := ((((hk1.trans hk3).trans hk5).mono (fun q y => Or.inl y)).trans (hk6.mono (fun q y => Or.inr y))).trans (hk7.mono (fun q y => Or.inr y))
        have ky : Kp (fun q => q = 166 ∨ q = 169) wy u3 := (hku.trans (hku2.mono (fun q y => Or.inl y))).trans (hku3.mono (fun q y => Or.inr y))
        refine lo_on (i' := nextN m (nextN m (nextN m i))) (kx.mono (fun q y => by omega)) (hf1.trans ((FY.f hku2 hfu2 (fun j hj => by unfold lyF; unfold nxF at *; omega)).trans (FY.h hku3))) ?_ ⟨hX5.kp (hk6.trans hk7) (fun q hq hq2 => by omega), hU2.kp hku3 (by decide) (by decide) (by decide), hD.rug h0 (numOk_r (lo := 2) (hi := 12) k1 v1 (by decide) (by decide)) (numOk_r (lo := 2) (hi := 12) k2 v2 (by decide) (by decide)) kx ?_ ho ?_ ky ?_ ?_⟩
        · have := nx_gt hi
          have := @nx_ge m (nextN m i)
          have := @nx_ge m (nextN m (nextN m i))
          omega
        · rw [e7, e6, hk5.I (by omega), hk3.I (by omega), hk1.I (by omega), ev, ev5]
        · rw [show (169 : Nat) = 166 + 3 from rfl, eu3, e18, show wI u2 (166 + 3) = wI u1 169 from hku2.I (by decide), e1]; rfl
        · rw [hku3.I (by decide), hfu2 20 (by unfold nxF; omega), e20]
        · rw [hku3.I (by decide), hfu2 21 (by unfold nxF; omega), e21]
      · refine tp_ce (x_take_no hX3.1 (by decide) k2) (tp_if rfl (tp_some ?_))
        refine yone (fun u1 hU1 e1 hf1 _ _ _ => tp_ce (y_take_no hU1.1 k2) (tp_ifn (by decide) (tp_out ?_)))
        exact lo_bad ((FX.t hk1).trans (FX.t hk3)) hf1 _ _
    · refine tp_ce (x_take_no hX1.1 (by decide) k1) (tp_if rfl (tp_some ?_))
      refine yprog (fun w2 hY2 _ hf2 _ _ => it_2 (tp_if (by decide) (tp_ce (y_take_no hY2.1 k1) (tp_ifn (by decide) (tp_out ?_)))))
      exact lo_bad (FX.t hk1) hf2 _ _
end L1
