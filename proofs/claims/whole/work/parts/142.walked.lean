/-! walk() and walked(), whole -/
def WKX (jd : Bool) (v : Nat → Int32) (w : Wd) : Prop := wI w 60 6 = bi jd ∧ (jd = true → ∀ q, q < 4 → wI w 60 (7 + q) = v q)
def WKM (jd : Bool) (v : Nat → Int32) (w : Wd) : Prop := wI w 166 35 = bi jd ∧ (jd = true → ∀ q, q < 4 → wI w 179 q = v q)
def wkF (j : Nat) : Prop := j = 0 ∨ (2 ≤ j ∧ j ≤ 5) ∨ wyF j ∨ j = 35
section WH
variable {S : Nat → Int32} {w w' wx wy w1 w2 : Wd} {n p t L : Nat} {b : Nat → Nat} {f : Nat → Int64} {jd : Bool} {v : Nat → Int32} {dd ff mm : Nat → Nat}
theorem t2_mono {α β : Type} {m1 : Option (α × Wd)} {m2 : Option (β × Wd)} {P Q : α → Wd → β → Wd → Prop} (h : t2 m1 m2 P) (k : ∀ r1 w1 r2 w2, P r1 w1 r2 w2 → Q r1 w1 r2 w2) : t2 m1 m2 Q := by
  obtain ⟨r1, w1, e1, r2, w2, e2, h⟩ := h
  exact ⟨r1, w1, e1, r2, w2, e2, k _ _ _ _ h⟩
theorem WS.kp {w1' : Wd} (h : WS p t L dd ff mm w1 w2) {P : Nat → Prop} (hk : Kp P w1 w1') (hP : ∀ q, 60 ≤ q → q ≤ 63 → ¬ P q) : WS p t L dd ff mm w1' w2 := by
  unfold WS at *
  rw [hk.I (hP 60 (by decide) (by decide)), hk.I (hP 61 (by decide) (by decide)), hk.I (hP 62 (by decide) (by decide)), hk.I (hP 63 (by decide) (by decide))]
  exact h
theorem j_128 (hG : XG S wx) (hN : XN S f wx) (hX : XT n b wx) (hS : wI wy 168 = S) (hf : MN f wy) (hM : MT n b wy) (hW : WRD wy) (hx : WKX jd v wx) (hy : WKM jd v wy) : t2 (sh_128 0 wx) (sh_253 166 wy) (fun r1 w1 r2 w2 => r1 = r2 ∧ XT 0 b w1 ∧ MT 0 b w2 ∧ wI w1 1 2 = wI w2 166 15 ∧ Kp (fun q => (1 ≤ q ∧ q ≤ 5) ∨ (60 ≤ q ∧ q ≤ 63)) wx w1 ∧ Kp (fun q => q = 166 ∨ q = 170 ∨ q = 179) wy w2 ∧ Fm wkF wy w2 ∧ ∃ jd' v', WKX jd' v' w1 ∧ WKM jd' v' w2) := by
  obtain ⟨hF, hWR, hR, a, ea, h7, hH⟩ := hG
  obtain ⟨a', o, s, u, e2, e3, e4, e5, hao, hsu, hNm, hSR⟩ := hN
  have : a' = a := by rw [ea] at e2; exact (Option.some.inj e2).symm
  subst this
  have hn := hX.1
  have hb : ∀ j, j < n → b j < 256 := fun j hj => (hX.2.2 j hj).2
  unfold sh_128 sh_253
  rw [der_e ea]
  unfold sh_129
  refine t2c_g (fun u1 eu1 ku1 => t2c_cl ?_)
  have hX1 : XT n b u1 := ⟨hn, by rw [ku1.I (by omega)]; exact hX.2.1, fun j hj => by rw [ku1.I (by omega)]; exact hX.2.2 j hj⟩
  refine t2_1 (x_begin hX1 (lim := 300) (by decide)) (fun _ u2 g2 => ?_)
  obtain ⟨m, hXs, f4, f2, f3, f6, k2, -, -⟩ := g2
  have hXQ : XQ n b 300 m 0 u2 := ⟨⟨hXs, Nat.zero_le _, f6, f4⟩, f2⟩
  have hT := hXs.2.2.2.1
  refine t2_s2 ?_
  have hM0 : MT n b (sI wy 166 0 0) := ⟨by rw [wI_other (by decide)]; exact hM.1, fun j hj => by rw [wI_row (by decide)]; exact hM.2 j hj⟩
  refine t2_2 (y_taken hn hb (lim := 300) (by decide) hM0) (fun _ v1 h1 => ?_)
  obtain ⟨hB1, y4, y2, kv1, fv1⟩ := h1
  refine t2_s2 (t2_s2 ?_)
  obtain ⟨v2, ev2⟩ : ∃ v2, v2 = sI (sI v1 166 15 0) 166 34 0 := ⟨_, rfl⟩
  rw [← ev2]
  have kv2 : Kp (fun q => q = 166) v1 v2 := by
    rw [ev2]
    exact (kp0 (P := fun q => q = 166) rfl).sI rfl _ _
  have fv2 : Fm (fun j => j = 15 ∨ j = 34) v1 v2 := fun j hj => by
    rw [ev2, wI_other (by omega), wI_other (by omega)]
  have ez15 : wI v2 166 15 = 0 := by rw [ev2, wI_other (by decide), wI_same]
  have ez34 : wI v2 166 34 = 0 := by rw [ev2, wI_same]
  clear ev2
  have hB2 : MB n b 300 v2 := hB1.fm fv2 kv2 (by decide) (by decide)
  refine t2_2 (y_first hB2 (by rw [fv2 4 (by omega)]; exact y4) hT) (fun _ v3 h3 => ?_)
  obtain ⟨hK3, hB3, k3, f3'⟩ := h3
  have hY3 : YS n b 300 m 0 v3 := ⟨hK3, hB3, by unfold WRD; rw [k3.L (by decide), kv2.L (by decide), kv1.L (by decide), wL_sI']; exact hW, by rw [f3' 15 (by unfold nxF; omega)]; exact ez15⟩
  have ky3 : Kp (fun q => q = 166 ∨ q = 170 ∨ q = 179) wy v3 := (((kp0 (P := fun q => q = 166 ∨ q = 170 ∨ q = 179) (Or.inl rfl)).trans (kv1.mono (fun q y => Or.inl y))).trans (kv2.mono (fun q y => Or.inl y))).trans (k3.mono (fun q y => Or.inl y))
  have fm3 : Fm wkF wy v3 := fun j hj => by
    have a1 : ¬ nxF j := fun q => hj (Or.inr (Or.inr (Or.inl (Or.inl q))))
    have a2 : ¬ (j = 0 ∨ (2 ≤ j ∧ j ≤ 5) ∨ j = 15 ∨ j = 34) := fun q => hj (by unfold wkF wyF; omega)
    rw [f3' j a1, fv2 j (by omega), fv1 j (by omega), wI_other (by omega)]
  have z2 : wI u2 60 2 = 0 := by rw [k2.I (by unfold tkP; omega), show wI u1 60 = wI u1 (0 + 60) from rfl, eu1, up_s]
  have kx2 : Kp (fun q => (1 ≤ q ∧ q ≤ 5) ∨ (60 ≤ q ∧ q ≤ 63)) wx u2 := (ku1.mono (fun q y => by omega)).trans (k2.mono (fun q y => by unfold tkP at y; omega))
  have x60 : ∀ j, 3 ≤ j → wI u2 60 j = wI wx 60 j := fun j hj => by rw [k2.I (by unfold tkP; omega), show wI u1 60 = wI u1 (0 + 60) from rfl, eu1, up_o (by omega)]
  have rd := j_wread (S := S) (f := f) hXQ hY3 hF (hH.kp kx2 (fun q h1 h2 => by omega)) h7 (hNm.kp kx2 (fun q h1 h2 => by omega)) (by rw [ky3.I (by decide)]; exact hS) (fun i hi => by rw [ky3.L (by decide)]; exact hf i hi) (by rw [f3' 34 (by unfold nxF; omega)]; exact ez34) z2
  obtain ⟨r1, w3, er1, r2, v4, er2, hx3, hy4, hq⟩ := rd
  refine t2_e1 er1 (t2_e2 er2 (t2_g1 (fun w4 e4' k4 => ?_)))
  have kx4 : Kp (fun q => (1 ≤ q ∧ q ≤ 5) ∨ (60 ≤ q ∧ q ≤ 63)) wx w4 := (kx2.trans (hx3.1.mono (fun q y => by omega))).trans (k4.mono (fun q y => by omega))
  have ky4 : Kp (fun q => q = 166 ∨ q = 170 ∨ q = 179) wy v4 := ky3.trans (hy4.1.mono (fun q y => by omega))
  have fm4 : Fm wkF wy v4 := fun j hj => by rw [hy4.2 j (fun q => hj (Or.inr (Or.inr (Or.inl q)))), fm3 j hj]
  have y24 : wI v4 166 2 = 0 := by rw [hy4.2 2 (by unfold wyF nxF; omega), f3' 2 (by unfold nxF; omega), fv2 2 (by omega)]; exact y2
  have hXT : XT 0 b w4 := ⟨by omega, by rw [show wI w4 1 = wI w4 (0 + 1) from rfl, e4', up_s]; rfl, fun j hj => by omega⟩
  have hMT : MT 0 b v4 := ⟨y24, fun j hj => by omega⟩
  have e12 : ∀ j, ¬ j = 1 → wI w4 1 j = wI w3 1 j := fun j hj => by rw [show wI w4 1 = wI w4 (0 + 1) from rfl, e4', up_o hj]
  have x60' : ∀ j, 3 ≤ j → wI w4 60 j = wI wx 60 j := fun j hj => by rw [k4.I (by decide), hx3.2 j hj, x60 j hj]
  rcases hq with ⟨a1, a2, fl⟩ | ⟨a1, a2, g1, g2, p, t, L, dd, ff, mm, hp, ht, hWS⟩
  · rw [a1, a2]
    refine t2_ifn1 (by decide) (t2_ifn2 (by decide) (t2_end ⟨?_, hXT, hMT, ?_, kx4, ky4, fm4, jd, v, ⟨by rw [x60' 6 (by decide)]; exact hx.1, fun hj q hq => by rw [x60' _ (by omega)]; exact hx.2 hj q hq⟩, ⟨?_, fun hj q hq => ?_⟩⟩))
    · rw [show wI w4 (0 + 1) 3 = wI w3 1 3 from e12 3 (by decide), fl.2]
    · rw [e12 2 (by decide)]; exact fl.1
    · rw [hy4.2 35 (by unfold wyF nxF; omega), f3' 35 (by unfold nxF; omega), fv2 35 (by omega), fv1 35 (by omega), wI_other (by omega)]; exact hy.1
    · rw [hy4.1.I (by decide), k3.I (by decide), kv2.I (by decide), kv1.I (by decide), wI_row (by decide)]; exact hy.2 hj q hq
  · rw [a1, a2]
    refine t2_if1 rfl (t2_if2 rfl ?_)
    rw [der_e (by rw [kx4.R]; exact ea)]
    have jj := j_judge (w1 := w4) (w2 := v4) hF (hH.kp kx4 (fun q h1 h2 => by omega)) h7 (by rw [ky4.I (by decide)]; exact hS) hp ht (hWS.kp k4 (fun q h1 h2 => by omega))
    obtain ⟨r1, w5, er1, r2, v5, er2, hr, kx5, ky5, fm5, c6, c35, c7, c8, c9, c10⟩ := jj
    refine t2_e1 er1 (tp_some (tp_eq er2 ?_))
    refine ⟨hr, ⟨by omega, by rw [kx5.I (by decide)]; exact hXT.2.1, fun j hj => by omega⟩, ⟨by rw [fm5 2 (by decide)]; exact y24, fun j hj => by omega⟩, ?_, kx4.trans (kx5.mono (fun q y => by omega)), ky4.trans (ky5.mono (fun q y => by omega)), fun j hj => ?_, true, wI v5 179, ⟨by rw [c6]; rfl, fun _ q hq => ?_⟩, ⟨by rw [c35]; rfl, fun _ q hq => rfl⟩⟩
    · rw [kx5.I (by decide), e12 2 (by decide), g1, fm5 15 (by decide), g2]
    · rw [fm5 j (fun q => hj (by unfold wkF; omega)), fm4 j hj]
    · have : q = 0 ∨ q = 1 ∨ q = 2 ∨ q = 3 := by omega
      rcases this with y | y | y | y <;> subst y
      · exact c7
      · exact c8
      · exact c9
      · exact c10
/-- what is answered of the latest walk() -/
noncomputable def wkV (jd : Bool) (v : Nat → Int32) (p : Int32) : Int32 := if jd = true ∧ 0 ≤ p ∧ p < 4 then v (ix p) else -1
theorem x_walked (h : WKX jd v wx) (p : Int32) : sh_136 0 p wx = some (wkV jd v p, wx) := by
  obtain ⟨h6, hv⟩ := h
  unfold sh_136 wkV
  rw [cl_id]
  unfold sh_137
  rw [h6]
  cases jd with
  | false => rw [if_pos (show bi false = 0 from rfl), if_neg (fun z => by cases z.1)]
  | true =>
    rw [if_neg (by decide)]
    unfold swt
    have hv := hv rfl
    by_cases h0 : 0 ≤ p
    · obtain ⟨k, hk, e⟩ := nI_ex h0
      subst e
      rw [ix_nI hk]
      by_cases h4 : k < 4
      · rw [if_pos ⟨h0, h4⟩, if_pos ⟨rfl, h0, show nI k < nI 4 from nlt h4 (by decide)⟩]
        have : k = 0 ∨ k = 1 ∨ k = 2 ∨ k = 3 := by omega
        rcases this with y | y | y | y <;> subst y
        · rw [← hv 0 (by decide)]; rfl
        · rw [← hv 1 (by decide)]; rfl
        · rw [← hv 2 (by decide)]; rfl
        · rw [← hv 3 (by decide)]; rfl
      · rw [if_neg (fun z => h4 z.2), if_neg (fun z => (show ¬ nI k < nI 4 from nnlt (by omega) hk) z.2.2)]
    · rw [if_neg (fun z => h0 z.1), if_neg (fun z => h0 z.2.1)]
theorem y_walked (h : WKM jd v wy) (p : Int32) : sh_255 166 p wy = some (wkV jd v p, sI wy 166 0 0) := by
  obtain ⟨h6, hv⟩ := h
  unfold sh_255 wkV
  rw [stI_s, wI_other (by decide), h6]
  cases jd with
  | false => rw [if_pos (show bi false = 0 from rfl), if_neg (fun z => by cases z.1)]
  | true =>
    rw [if_neg (by decide), cl_e (y_isIn _ _ _ _)]
    have hv := hv rfl
    by_cases h0 : 0 ≤ p
    · obtain ⟨k, hk, e⟩ := nI_ex h0
      subst e
      rw [decide_eq_true h0, Bool.true_and]
      by_cases h4 : k < 4
      · rw [decide_eq_true (show nI k ≤ (3 : Int32) from nle (b := 3) (by omega) (by decide)), if_pos rfl, if_pos ⟨rfl, h0, show nI k < nI 4 from nlt h4 (by decide)⟩, gd_nI h4 (by decide), ix_nI hk, wI_row (by decide), show wI wy (166 + 13) k = v k from hv k h4]
      · rw [decide_eq_false (show ¬ nI k ≤ (3 : Int32) from nnle (b := 3) (by omega) hk), if_neg (by decide), if_neg (fun z => (show ¬ nI k < nI 4 from nnlt (by omega) hk) z.2.2)]
    · rw [decide_eq_false h0, if_neg (by rw [Bool.false_and]; decide), if_neg (fun z => h0 z.2.1)]
end WH
