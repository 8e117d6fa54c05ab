/-! the LINES, on both sides -/
def FZ (w w' : Wd) : Prop := Kp (fun q => q = 166 ∨ q = 169 ∨ q = 171) w w' ∧ Fm (fun j => lyF j ∨ j = 19) w w' ∧ ∀ i, i < 12 → wL w' 171 i = wL w 171 i
theorem FZ.refl {w : Wd} : FZ w w := ⟨Kp.refl, fun _ _ => rfl, fun _ _ => rfl⟩
theorem FZ.trans {w w' w2 : Wd} (h : FZ w w') (h2 : FZ w' w2) : FZ w w2 := ⟨h.1.trans h2.1, fun j hj => (h2.2.1 j hj).trans (h.2.1 j hj), fun i hi => (h2.2.2 i hi).trans (h.2.2 i hi)⟩
theorem FY.z {w w' : Wd} (h : FY w w') : FZ w w' := ⟨h.1, fun j hj => h.2.1 j (fun q => hj (Or.inl q)), h.2.2⟩
theorem FZ_bad {w w' : Wd} (h : FZ w w') (f : Int32) (a : Nat) : FZ w (yBad f a w') := h.trans (FY_bad FY.refl f a).z
section HL
variable {n lim m i o p : Nat} {b : Nat → Nat} {S : Nat → Int32} {w w' w1 w2 u1 u2 : Wd}
theorem y_noline (hY : YS n b lim m i w) (hT : TM n b (min n lim) m) (hn : ∀ j, j < 6 → ¬ wdOk (tkA n b m i) j) : sh_195 166 w = some (false, yBad 1 (atB n b lim m i) w) := by
  unfold sh_195
  rw [cl_e (y_wdn hY hT hn (by decide) l_rg), if_neg (by decide), cl_e (y_wdn hY hT hn (by decide) l_pe), if_neg (by decide), cl_e (y_wdn hY hT hn (by decide) l_wl), if_neg (by decide), cl_e (y_wdn hY hT hn (by decide) l_dr), if_neg (by decide), cl_e (y_wdn hY hT hn (by decide) l_wy), if_neg (by decide), cl_e (y_wdn hY hT hn (by decide) l_fd), if_neg (by decide), cl_e (y_bad hY.1 1)]
  rfl
theorem sg_lt {c : Nat} (h : sgOk (tkA n b m i) c = true) : i < m := by
  by_cases q : i < m
  · exact q
  · unfold tkA at h
    rw [if_neg q] at h
    cases h
theorem xq_sign (h : XQ n b lim m i w) {c : Nat} (hc : 1 ≤ c) (h9 : c ≤ 62) (ho : sgOk (tkA n b m i) c = true) : tp (sh_58 1 (nI c) w) (fun v w' => v = true ∧ XQ n b lim m (nextN m i) w' ∧ Kp (fun q => q = 1) w w') :=
  tp_mono (x_sign_ok h.1 hc h9 ho) (fun _ _ g => ⟨g.1, ⟨g.2.1, by rw [g.2.2.2 2 (by decide)]; exact h.2⟩, g.2.2.1⟩)
theorem ys_sign (h : YS n b lim m i w) (hT : TM n b (min n lim) m) {c : Nat} (h9 : c ≤ 62) (ho : sgOk (tkA n b m i) c = true) : tp (sh_208 166 (nI c) w) (fun v w' => v = true ∧ YS n b lim m (nextN m i) w' ∧ Kp (fun q => q = 166) w w' ∧ Fm nxF w w') :=
  tp_mono (y_sign_ok h.2.1 h.1 hT h9 ho) (fun _ _ g => ⟨g.1, ⟨g.2.1, g.2.2.1, by unfold WRD; rw [g.2.2.2.1.L (by decide)]; exact h.2.2.1, by rw [g.2.2.2.2 15 (by unfold nxF; omega)]; exact h.2.2.2⟩, g.2.2.2⟩)
theorem house_loop {γ : Type} (R : Int32 → γ) (E : Wd → Option ((Unit ⊕ γ) × Wd)) (ho : 6 ≤ o) (h : LnS n b lim m 0 S o u1 u2) (e19 : wI u2 166 19 = 0) {Q : Int32 → Wd → γ → Wd → Prop} (hE : ∀ L S' w1 w2, L < 900 → ¬ lim < n → LnS n b lim m m S' o w1 w2 → FX o u1 w1 → FZ u2 w2 → wI w2 166 19 = nI L → tp (E w2) (fun r v2 => ∃ v, r = .inr v ∧ Q (nI L) w1 v v2)) (hB : ∀ w1 w2, FX o u1 w1 → FZ u2 w2 → FL w1 w2 → Q (-1) w1 (R ((-1) - wI w2 166 16)) w2) :
    t2 (itM (fun (v2_5 : Int32) (w7 : Wd) => jn (fun (s26 : Unit) (w9 : Wd) => cl (sh_60 1 w9) (fun r11 w10 => lt (if r11 = true then v2_5 else (-1) : Int32) (fun z12 => some (.inr (z12), w10)))) (fun j8 => if v2_5 < 900 then (cl (sh_30 1 w7) (fun r17 w16 => if r17 = true then (j8 () w16) else (cl (sh_32 p o w16) (fun r20 w19 => if r20 = true then (cl (sh_58 1 59 w19) (fun r23 w22 => if r23 = true then (lt (v2_5 + 1 : Int32) (fun v2_25 => some (.inl v2_25, w22))) else (some (.inr ((-1)), w22)))) else (some (.inr ((-1)), w19)))))) else (j8 () w7))) FU 0 u1)
      (itM (fun (s45 : Unit) (w18 : Wd) => if wI w18 166 11 = 0 then E w18 else (cl (sh_195 166 w18) (fun r39 w38 => if r39 = true then (cl (sh_208 166 59 w38) (fun r42 w41 => if r42 = true then (stI w41 166 19 ((wI w41 166 19) + 1) (fun w44 => some (.inl (), w44))) else (some (.inr (R ((-1) - (wI w41 166 16))), w41)))) else (some (.inr (R ((-1) - (wI w38 166 16))), w38))))) FU () u2) Q := by
  have hm : m ≤ 940 := h.1.1.1.2.1
  refine tp2_it (fun j s1 w1 s2 w2 => ∃ i S', s1 = nI j ∧ 2 * j ≤ i ∧ LnS n b lim m i S' o w1 w2 ∧ FX o u1 w1 ∧ FZ u2 w2 ∧ wI w2 166 19 = nI j) 471 (by omega) ⟨0, S, rfl, by omega, h, FX.refl, FZ.refl, e19⟩ (fun j s1 w1 s2 w2 hI => ?_)
  obtain ⟨i, S', e1, h2, hL, fx, fy, f19⟩ := hI
  subst e1
  have hi : i ≤ m := hL.1.1.2.1
  have hT := hL.1.1.1.2.2.2.1
  show t2 _ _ _
  rw [jn_s]
  refine t2_if1 (show nI j < nI 900 from nlt (by omega) (by omega)) (t2_e1 (x_atEnd hL.1.1) ?_)
  by_cases hq : i = m
  · refine t2_if1 (decide_eq_true hq) ?_
    by_cases hl : lim < n
    · refine t2_e1 (x_ends hL.1.1 |>.trans (if_neg (fun z => z.2 hl))) (t2_lt1 (t2_ifn2 (fun z => ((y_atEnd hL.2.1.1).mp z).2 hl) ?_))
      have hn : ∀ j, j < 6 → ¬ wdOk (tkA n b m i) j := fun j _ hw => by
        have := hw.1
        unfold tkA at this
        rw [if_neg (by omega)] at this
        cases this
      exact t2_e2 (y_noline hL.2.1 hT hn) (t2_ifn2 (by decide) (t2_end (hB _ _ (FX_bad fx 1 _) (FZ_bad fy 1 _) (FL_bad 1 _))))
    · refine t2_e1 (x_ends hL.1.1 |>.trans (if_pos ⟨hq, hl⟩)) (t2_lt1 (t2_if2 ((y_atEnd hL.2.1.1).mpr ⟨hq, hl⟩) (tp_some ?_)))
      subst hq
      refine tp_mono (hE j S' w1 w2 (by omega) hl hL fx fy f19) (fun r v2 hr => ?_)
      obtain ⟨v, er, hQ⟩ := hr
      rw [er]
      exact hQ
  · have him : i < m := by omega
    refine t2_ifn1 (by rw [decide_eq_false hq]; decide) (t2_ifn2 (fun z => hq ((y_atEnd hL.2.1.1).mp z).1) ?_)
    obtain ⟨r1, v1, er1, r2, v2, er2, hx, hy, hq⟩ := l_line (p := p) hL ho him
    refine t2_e1 er1 (t2_e2 er2 ?_)
    have fx1 := fx.trans hx
    have fy1 := fy.trans hy.z
    rcases hq with ⟨a1, a2, i', S2, hii, hL2⟩ | ⟨a1, a2, hfl⟩ | ⟨a1, a2, i', hX2, hs, g15, g16⟩
    · rw [a1, a2]
      refine t2_if1 rfl (t2_if2 rfl ?_)
      have f19' : wI v2 166 19 = nI j := by rw [hy.2.1 19 (by unfold lyF nxF; omega), f19]
      cases hs : sgOk (tkA n b m i') 59 with
      | true =>
        have hi2 := sg_lt hs
        refine t2_1 (xq_sign hL2.1 (c := 59) (by decide) (by decide) hs) (fun q v3 g3 => t2_2 (ys_sign hL2.2.1 hT (c := 59) (by decide) hs) (fun q2 v4 g4 => ?_))
        obtain ⟨eq, hX3, k3⟩ := g3
        obtain ⟨eq2, hY4, k4, f4⟩ := g4
        refine t2_if1 eq (t2_lt1 (t2_if2 eq2 (t2_s2 (t2_end ?_))))
        rw [nI_s]
        have k5 : Kp (fun q => q = 166) v4 (sI v4 166 19 (wI v4 166 19 + 1)) := kp0 rfl
        refine ⟨by omega, nextN m i', S2, rfl, ?_, ⟨hX3, hY4.f (by decide), hL2.2.2.kp (P := fun j => nxF j ∨ j = 19) ho k3 (k4.trans k5) (fun j hj => ?_) (by unfold nxF; omega) (by unfold nxF; omega)⟩, fx1.trans (FX.t k3), (fy1.trans (FY.f k4 f4 (fun j hj => Or.inl hj)).z).trans ⟨k5.mono (fun q y => Or.inl y), fun j hj => wI_other (fun z => hj (Or.inr z)), fun _ _ => rfl⟩, ?_⟩
        · unfold nextN; rw [if_pos hi2]; omega
        · rw [wI_other (fun z => hj (Or.inr z)), f4 j (fun z => hj (Or.inl z))]
        · rw [wI_same, f4 19 (by unfold nxF; omega), f19', nI_s]
      | false =>
        refine t2_e1 (x_sign_bad hL2.1.1 (c := 59) (by decide) (by decide) hs) (t2_e2 (y_sign_bad hL2.2.1.1 (c := 59) (by decide) hs) (t2_ifn1 (by decide) (t2_ifn2 (by decide) (t2_end ?_))))
        exact hB _ _ (FX_bad fx1 1 _) (FZ_bad fy1 1 _) (FL_bad 1 _)
    · rw [a1, a2]
      exact t2_ifn1 (by decide) (t2_ifn2 (by decide) (t2_end (hB _ _ fx1 fy1 hfl)))
    · rw [a1, a2]
      refine t2_if1 rfl (t2_e1 (x_sign_bad hX2.1 (c := 59) (by decide) (by decide) hs) (t2_ifn1 (by decide) (t2_ifn2 (by decide) (t2_end (hB _ _ (FX_bad fx1 1 _) fy1 ?_)))))
      unfold FL xBad
      rw [g15, g16, wI_same, wI_other (by decide), wI_same]
      exact ⟨rfl, rfl⟩
end HL
