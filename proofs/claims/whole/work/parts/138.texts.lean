/-! house(): the texts taken on both sides -/
section HT
variable {n lim m i o p : Nat} {b : Nat → Nat} {S : Nat → Int32} {w w' w1 w2 u1 u2 wx wy : Wd}
theorem y_copyin : tp (itM (fun (v1_20 : Int32) (w22 : Wd) => if v1_20 < 10265 then (if v1_20 < 429 then (gd (ib v1_20 429) (gd (ib v1_20 10265) (stI w22 (166 + 2) (ix v1_20) (wI w22 (166 + 3) (ix v1_20)) (fun w25 => lt (v1_20 + 1 : Int32) (fun v1_26 => some (.inl v1_26, w25)))))) else (gd (ib v1_20 10265) (stI w22 (166 + 2) (ix v1_20) 0 (fun w27 => lt (v1_20 + 1 : Int32) (fun v1_28 => some (.inl v1_28, w27)))))) else (itM (fun (v1_29 : Int32) (w31 : Wd) => if v1_29 < 12 then (gd (ib (12 + v1_29) 24) (gd (ib v1_29 24) (stL w31 (166 + 5) (ix v1_29) (wL w31 (166 + 5) (ix (12 + v1_29))) (fun w33 => lt (v1_29 + 1 : Int32) (fun v1_34 => some (.inl v1_34, w33)))))) else (stI w31 166 23 0 (fun w35 => some (.inr (.inr (.inr (.inr (wI w35 166 19)))), w35)))) FU 0 w22)) FU 0 w : Option ((Unit ⊕ (Int32 ⊕ Int32)) × Wd)) (fun r w' => r = .inr (.inr (wI w 166 19)) ∧ (∀ i, i < 429 → wI w' 168 i = wI w 169 i) ∧ (∀ i, 429 ≤ i → i < 10265 → wI w' 168 i = 0) ∧ (∀ i, 10265 ≤ i → wI w' 168 i = wI w 168 i) ∧ (∀ i, i < 12 → wL w' 171 i = wL w 171 (12 + i)) ∧ wI w' 166 23 = 0 ∧ Kp (fun q => q = 166 ∨ q = 168 ∨ q = 171) w w' ∧ Fm (fun j => j = 23) w w') := by
  refine tp_it (fun j s w' => s = nI j ∧ j ≤ 10265 ∧ (∀ i, i < j → i < 429 → wI w' 168 i = wI w 169 i) ∧ (∀ i, i < j → 429 ≤ i → wI w' 168 i = 0) ∧ (∀ i, 10265 ≤ i → wI w' 168 i = wI w 168 i) ∧ Kp (fun q => q = 168) w w') 10265 (by omega) ⟨rfl, Nat.zero_le _, fun i hi => by omega, fun i hi => by omega, fun i _ => rfl, Kp.refl⟩ (fun j s w' hI => ?_)
  obtain ⟨e, hj, g1, g2, g3, gk⟩ := hI
  subst e
  refine tp_ite (fun hlt => ?_) (fun hlt => ?_)
  · have hj8 : j < 10265 := (nlt_i (by omega) (by decide)).mp (show nI j < nI 10265 from hlt)
    rw [ix_nI (by omega), nI_s]
    have hib : ib (nI j) 10265 = true := ib_nI hj8 (by decide)
    by_cases q : j < 429
    · refine tp_if (show nI j < nI 429 from nlt q (by decide)) (tp_gd (ib_nI q (by decide)) (tp_gd hib (tp_stG (fun w2 e2 k2 => tp_lt (tp_on ⟨hj8, rfl, by omega, fun i hi hi2 => ?_, fun i hi hi2 => ?_, fun i hi => ?_, gk.trans k2⟩)))))
      · rw [show wI w2 168 = wI w2 (166 + 2) from rfl, e2]
        by_cases y : i = j
        · rw [y, up_s, show wI w' (166 + 3) j = wI w' 169 j from rfl, gk.I (by decide)]
        · rw [up_o y]; exact g1 i (by omega) hi2
      · omega
      · rw [show wI w2 168 = wI w2 (166 + 2) from rfl, e2, up_o (by omega)]; exact g3 i hi
    · refine tp_ifn (show ¬ nI j < nI 429 from nnlt (by omega) (by omega)) (tp_gd hib (tp_stG (fun w2 e2 k2 => tp_lt (tp_on ⟨hj8, rfl, by omega, fun i hi hi2 => ?_, fun i hi hi2 => ?_, fun i hi => ?_, gk.trans k2⟩))))
      · rw [show wI w2 168 = wI w2 (166 + 2) from rfl, e2, up_o (by omega)]; exact g1 i (by omega) hi2
      · rw [show wI w2 168 = wI w2 (166 + 2) from rfl, e2]
        by_cases y : i = j
        · rw [y, up_s]
        · rw [up_o y]; exact g2 i (by omega) hi2
      · rw [show wI w2 168 = wI w2 (166 + 2) from rfl, e2, up_o (by omega)]; exact g3 i hi
  · have hj8 : j = 10265 := by
      by_cases q : j < 10265
      · exact absurd (nlt q (by decide) : nI j < nI 10265) hlt
      · omega
    subst hj8
    refine tp_it (fun j s w'' => s = nI j ∧ j ≤ 12 ∧ (∀ i, i < j → wL w'' 171 i = wL w 171 (12 + i)) ∧ (∀ i, 12 ≤ i → wL w'' 171 i = wL w 171 i) ∧ Kp (fun q => q = 171) w' w'') 12 (by omega) ⟨rfl, Nat.zero_le _, fun i hi => by omega, fun i hi => by rw [gk.L (by decide)], Kp.refl⟩ (fun j s w'' hI => ?_)
    obtain ⟨e, hj, q1, q2, q3⟩ := hI
    subst e
    refine tp_ite (fun hlt => ?_) (fun hlt => ?_)
    · have hj8 : j < 12 := (nlt_i (by omega) (by decide)).mp (show nI j < nI 12 from hlt)
      rw [l12, nI_p, ix_nI (by omega), ix_nI (by omega), nI_s]
      refine tp_gd (ib_nI (by omega) (by decide)) (tp_gd (ib_nI (by omega) (by decide)) (tp_stL (tp_lt (tp_on ⟨hj8, rfl, by omega, fun i hi => ?_, fun i hi => ?_, q3.sL (by omega) _ _⟩))))
      · rw [show 166 + 5 = 171 from rfl, wL_up]
        by_cases q : i = j
        · rw [if_pos q, q]; exact q2 _ (by omega)
        · rw [if_neg q]; exact q1 i (by omega)
      · rw [show 166 + 5 = 171 from rfl, wL_up, if_neg (by omega)]; exact q2 i hi
    · have hj8 : j = 12 := by
        by_cases q : j < 12
        · exact absurd (nlt q (by decide) : nI j < nI 12) hlt
        · omega
      subst hj8
      have kk : Kp (fun q => q = 166 ∨ q = 168 ∨ q = 171) w w'' := (gk.mono (fun q y => by omega)).trans (q3.mono (fun q y => by omega))
      have e166 : wI w'' 166 = wI w 166 := by rw [q3.I (by decide), gk.I (by decide)]
      refine tp_stI (tp_oout ⟨?_, fun i hi => ?_, fun i h1 h2 => ?_, fun i hi => ?_, fun i hi => ?_, wI_same, kk.sI (Or.inl rfl) _ _, fun j hj => ?_⟩)
      · rw [wI_other (by decide), e166]
      · rw [wI_row (by decide), q3.I (by decide)]; exact g1 i (by omega) hi
      · rw [wI_row (by decide), q3.I (by decide)]; exact g2 i h2 h1
      · rw [wI_row (by decide), q3.I (by decide)]; exact g3 i hi
      · rw [wL_sI']; exact q1 i hi
      · rw [wI_other hj, e166]
theorem x_clearH (ho : o = 7 ∨ o = 17) : tp (sh_17 o w) (fun _ w' => (∀ j, j < 7 → wI w' o j = 0) ∧ (∀ t, t < 144 → wI w' (o + 8) t = 0) ∧ Kp (fun q => q = o ∨ q = o + 8) w w') := by
  unfold sh_17
  refine tp_stI (tp_stI (tp_stI (tp_stI (tp_stI (tp_stI (tp_stI ?_))))))
  obtain ⟨w0, ew0⟩ : ∃ w0, w0 = sI (sI (sI (sI (sI (sI (sI w o 0 0) o 1 0) o 2 0) o 3 0) o 4 0) o 5 0) o 6 0 := ⟨_, rfl⟩
  rw [← ew0]
  have k0 : Kp (fun q => q = o ∨ q = o + 8) w w0 := by
    rw [ew0]
    exact ((((((kp0 (P := fun q => q = o ∨ q = o + 8) (Or.inl rfl)).sI (Or.inl rfl) _ _).sI (Or.inl rfl) _ _).sI (Or.inl rfl) _ _).sI (Or.inl rfl) _ _).sI (Or.inl rfl) _ _).sI (Or.inl rfl) _ _
  have z0 : ∀ j, j < 7 → wI w0 o j = 0 := fun j hj => by
    rw [ew0, wI_up, wI_up, wI_up, wI_up, wI_up, wI_up, wI_up]
    unfold up
    have : j = 0 ∨ j = 1 ∨ j = 2 ∨ j = 3 ∨ j = 4 ∨ j = 5 ∨ j = 6 := by omega
    rcases this with q | q | q | q | q | q | q <;> subst q <;> rfl
  clear ew0
  refine tp_it (fun j s w' => s = nI j ∧ j ≤ 144 ∧ (∀ t, t < j → wI w' (o + 8) t = 0) ∧ Kp (fun q => q = o + 8) w0 w') 144 (by omega) ⟨rfl, by omega, fun t ht => by omega, Kp.refl⟩ (fun j s w' hI => ?_)
  obtain ⟨e, hj, g1, gk⟩ := hI
  subst e
  refine tp_ite (fun hlt => ?_) (fun hlt => ?_)
  · have hj8 : j < 144 := (nlt_i (by omega) (by decide)).mp (show nI j < nI 144 from hlt)
    rw [ix_nI (by omega), nI_s]
    refine tp_gd (ib_nI hj8 (by decide)) (tp_stG (fun w2 e2 k2 => tp_lt (tp_on ⟨hj8, rfl, by omega, fun t ht => ?_, gk.trans k2⟩)))
    rw [e2]
    by_cases y : t = j
    · rw [y, up_s]
    · rw [up_o y]; exact g1 t (by omega)
  · have hj8 : j = 144 := by
      by_cases q : j < 144
      · exact absurd (nlt q (by decide) : nI j < nI 144) hlt
      · omega
    subst hj8
    exact tp_out ⟨fun j hj => by rw [gk.I (by omega)]; exact z0 j hj, g1, k0.trans (gk.mono (fun q y => Or.inr y))⟩
/-- a HOUSE of nothing -/
theorem DH.zero (ho : o = 7 ∨ o = 17) (hx : ∀ j, j < 7 → wI wx o j = 0) (hx8 : ∀ t, t < 144 → wI wx (o + 8) t = 0) (hy : ∀ j, j < 429 → ¬ j = 6 → wI wy 169 j = 0) (hy6 : wI wy 169 6 = 9) (e20 : wI wy 166 20 = 0) (e21 : wI wy 166 21 = 0) : DH (wI wy 169) o wx wy := by
  have z : ∀ j, j < 429 → ¬ j = 6 → wI wy 169 j = nI 0 := hy
  have i0 : ∀ j, j < 429 → ¬ j = 6 → ix (wI wy 169 j) = 0 := fun j h1 h2 => by rw [z j h1 h2, ix_nI (by omega)]
  refine ⟨rfl, ⟨⟨0, 0, z 0 (by omega) (by omega), z 1 (by omega) (by omega), by omega, by omega⟩, ⟨0, z 2 (by omega) (by omega), by omega⟩, ⟨0, z 3 (by omega) (by omega), by omega⟩, ⟨0, z 4 (by omega) (by omega), by omega⟩, ⟨0, z 5 (by omega) (by omega), by omega⟩, ⟨9, hy6, by omega⟩, fun k hk => ?_, fun t ht => Or.inl (hy _ (by omega) (by omega)), fun k hk => ?_, fun k hk => ?_⟩, ⟨?_, ?_, ?_, ?_, ?_, ?_, ?_, fun k hk => ?_, fun t ht => ?_, fun k hk => ?_, fun k hk => ?_⟩, ⟨fun k hk => ?_, fun k hk => ?_⟩, fun k l hk => ?_, ?_, ?_, Or.inl (hx 2 (by omega))⟩
  · rw [i0 2 (by omega) (by omega)] at hk; omega
  · rw [i0 5 (by omega) (by omega)] at hk; omega
  · rw [i0 3 (by omega) (by omega)] at hk; omega
  · rw [hx 0 (by omega), hy 0 (by omega) (by omega)]
  · rw [hx 1 (by omega), hy 1 (by omega) (by omega)]
  · rw [hx 3 (by omega), hy 2 (by omega) (by omega)]
  · rw [hx 4 (by omega), hy 3 (by omega) (by omega)]
  · rw [hx 5 (by omega), hy 4 (by omega) (by omega)]
  · rw [hx 6 (by omega), hy 5 (by omega) (by omega)]
  · rw [hx 2 (by omega), if_pos rfl, hy6]
  · rw [i0 2 (by omega) (by omega)] at hk; omega
  · rw [hx8 t ht, hy _ (by omega) (by omega)]
  · rw [i0 5 (by omega) (by omega)] at hk; omega
  · rw [i0 3 (by omega) (by omega)] at hk; omega
  · rw [i0 2 (by omega) (by omega)] at hk; omega
  · rw [i0 3 (by omega) (by omega)] at hk; omega
  · rw [i0 5 (by omega) (by omega)] at hk; omega
  · rw [e20, hx 0 (by omega)]; exact ⟨fun _ => by decide, fun _ => rfl⟩
  · rw [e21, hx 2 (by omega)]; exact ⟨fun _ => by decide, fun _ => rfl⟩
def hmF (j : Nat) : Prop := j = 0 ∨ (2 ≤ j ∧ j ≤ 5) ∨ lyF j ∨ j = 19 ∨ j = 23
def HQ (o : Nat) (wx wy : Wd) (r1 : Int32) (w1 : Wd) (r2 : Int32) (w2 : Wd) : Prop := Kp (fun q => (1 ≤ q ∧ q ≤ 5) ∨ (o ≤ q ∧ q ≤ o + 9)) wx w1 ∧ Kp (fun q => q = 166 ∨ q = 168 ∨ q = 169 ∨ q = 171) wy w2 ∧ Fm hmF wy w2 ∧ wI w2 166 2 = 0 ∧ wI w1 1 2 = wI w2 166 15 ∧
  ((r1 = -1 ∧ wI w1 1 3 = wI w2 166 16 ∧ r2 = -1 - wI w2 166 16 ∧ wI w2 168 = wI wy 168 ∧ (∀ i, i < 12 → wL w2 171 i = wL wy 171 i) ∧ wI w2 166 23 = wI wy 166 23) ∨
  (∃ L S', r1 = nI L ∧ r2 = nI L ∧ L < 900 ∧ WF S' ∧ HR S' w1 o ∧ NM S' w1 o (fun i => wL w2 171 i) ∧ DS S' ∧ (∀ i, i < 429 → wI w2 168 i = S' i) ∧ (∀ i, 429 ≤ i → i < 10265 → wI w2 168 i = 0) ∧ (∀ i, 10265 ≤ i → wI w2 168 i = wI wy 168 i) ∧ wI w2 166 23 = 0))
theorem tp_of_t2 {α β : Type} {m1 : Option (α × Wd)} {m2 : Option (β × Wd)} {Q : α → Wd → β → Wd → Prop} {P : β → Wd → Prop} (h : t2 m1 m2 Q) (k : ∀ r1 w1 r2 w2, m1 = some (r1, w1) → Q r1 w1 r2 w2 → P r2 w2) : tp m2 P := by
  obtain ⟨r1, w1, e1, r2, w2, e2, hQ⟩ := h
  exact ⟨r2, w2, e2, k r1 w1 r2 w2 e1 hQ⟩
theorem NM.names {w : Wd} {f g : Nat → Int64} (h : NM S w o f) (hF : WF S) (e : ∀ i, i < 12 → g i = f i) : NM S w o g := by
  obtain ⟨P, eP, hP⟩ := hF.2.1
  obtain ⟨Y, eY, hY⟩ := hF.2.2.1
  refine ⟨fun k hk => ?_, fun k hk => ?_⟩
  · have hk2 := hk
    rw [eP, ix_nI (by omega)] at hk2
    rw [e k (by omega)]; exact h.1 k hk
  · have hk2 := hk
    rw [eY, ix_nI (by omega)] at hk2
    rw [e _ (by omega)]; exact h.2 k hk
theorem j_house (hX : XT n b wx) (hM : MT n b wy) (hW : WRD wy) (ho : o = 7 ∨ o = 17) : t2 (sh_16 p o wx) (sh_189 166 wy) (HQ o wx wy) := by
  have hn := hX.1
  have hb : ∀ j, j < n → b j < 256 := fun j hj => (hX.2.2 j hj).2
  unfold sh_16 sh_189
  refine t2_1 (x_clearH ho) (fun _ u1 g1 => ?_)
  obtain ⟨z1, z8, k1⟩ := g1
  have hX1 : XT n b u1 := ⟨hn, by rw [k1.I (by omega)]; exact hX.2.1, fun j hj => by rw [k1.I (by omega)]; exact hX.2.2 j hj⟩
  refine t2_1 (x_begin hX1 (lim := 900) (by decide)) (fun _ u2 g2 => ?_)
  obtain ⟨m, hXs, f4, f2, f3, f6, k2, -, -⟩ := g2
  have hXQ : XQ n b 900 m 0 u2 := ⟨⟨hXs, Nat.zero_le _, f6, f4⟩, f2⟩
  have hT := hXs.2.2.2.1
  refine tp_swap ?_
  refine tp_stI ?_
  have hM0 : MT n b (sI wy 166 0 0) := ⟨by rw [wI_other (by decide)]; exact hM.1, fun j hj => by rw [wI_row (by decide)]; exact hM.2 j hj⟩
  refine tp_cl (y_taken hn hb (lim := 900) (by decide) hM0) (fun _ v1 h1 => ?_)
  obtain ⟨hB1, y4, y2, kv1, fv1⟩ := h1
  refine tp_stI (tp_stI (tp_stI (tp_stI ?_)))
  obtain ⟨v2, ev2⟩ : ∃ v2, v2 = sI (sI (sI (sI v1 166 15 0) 166 19 0) 166 20 0) 166 21 0 := ⟨_, rfl⟩
  rw [← ev2]
  have kv2 : Kp (fun q => q = 166) v1 v2 := by
    rw [ev2]
    exact (((kp0 (P := fun q => q = 166) rfl).sI rfl _ _).sI rfl _ _).sI rfl _ _
  have fv2 : Fm (fun j => j = 15 ∨ j = 19 ∨ j = 20 ∨ j = 21) v1 v2 := fun j hj => by
    rw [ev2, wI_other (by omega), wI_other (by omega), wI_other (by omega), wI_other (by omega)]
  have ez : ∀ j, (j = 15 ∨ j = 19 ∨ j = 20 ∨ j = 21) → wI v2 166 j = 0 := fun j hj => by
    rw [ev2, wI_up, wI_up, wI_up, wI_up]
    unfold up
    rcases hj with q | q | q | q <;> subst q <;> rfl
  clear ev2
  have hB2 : MB n b 900 v2 := hB1.fm fv2 kv2 (by decide) (by decide)
  refine tp_it (fun j s v => s = nI j ∧ j ≤ 429 ∧ (∀ i, i < j → wI v 169 i = 0) ∧ Kp (fun q => q = 169) v2 v) 429 (by omega) ⟨rfl, by omega, fun i hi => by omega, Kp.refl⟩ (fun j s v hI => ?_)
  obtain ⟨e, hj, gz, gk⟩ := hI
  subst e
  refine tp_ite (fun hlt => ?_) (fun hlt => ?_)
  · have hj8 : j < 429 := (nlt_i (by omega) (by decide)).mp (show nI j < nI 429 from hlt)
    rw [ix_nI (by omega), nI_s]
    refine tp_gd (ib_nI hj8 (by decide)) (tp_stG (fun w2 e2 k2 => tp_lt (tp_on ⟨hj8, rfl, by omega, fun t ht => ?_, gk.trans k2⟩)))
    rw [show wI w2 169 = wI w2 (166 + 3) from rfl, e2]
    by_cases y : t = j
    · rw [y, up_s]
    · rw [up_o y]; exact gz t (by omega)
  · have hj8 : j = 429 := by
      by_cases q : j < 429
      · exact absurd (nlt q (by decide) : nI j < nI 429) hlt
      · omega
    subst hj8
    refine tp_gd (by decide) (tp_stG (fun v3 e3 k3 => ?_))
    have e3' : wI v3 169 = up (wI v 169) 6 9 := e3
    have kv3 : Kp (fun q => q = 169) v2 v3 := gk.trans k3
    have hB3 : MB n b 900 v3 := by unfold MB at *; rw [kv3.I (by decide), kv3.I (by decide)]; exact hB2
    refine tp_cl (y_first hB3 (by rw [kv3.I (by decide), fv2 4 (by omega)]; exact y4) hT) (fun _ v4 h4 => ?_)
    obtain ⟨hK4, hB4, k4, f4'⟩ := h4
    have f4z : ∀ j, (j = 15 ∨ j = 19 ∨ j = 20 ∨ j = 21) → wI v4 166 j = 0 := fun j hj => by rw [f4' j (by unfold nxF; omega), kv3.I (by decide)]; exact ez j hj
    have hY4 : YS n b 900 m 0 v4 := ⟨hK4, hB4, by unfold WRD; rw [k4.L (by decide), kv3.L (by decide), kv2.L (by decide), kv1.L (by decide), wL_sI']; exact hW, f4z 15 (by omega)⟩
    have hD4 : DH (wI v4 169) o u2 v4 := by
      refine DH.zero ho (fun j hj => ?_) (fun t ht => ?_) (fun j hj h6 => ?_) ?_ (f4z 20 (by omega)) (f4z 21 (by omega))
      · rw [k2.I (by unfold tkP; omega)]; exact z1 j hj
      · rw [k2.I (by unfold tkP; omega)]; exact z8 t ht
      · rw [k4.I (by decide), e3', up_o h6]; exact gz j hj
      · rw [k4.I (by decide), e3', up_s]
    have kx2 : Kp (fun q => (1 ≤ q ∧ q ≤ 5) ∨ (o ≤ q ∧ q ≤ o + 9)) wx u2 := (k1.mono (fun q y => by omega)).trans (k2.mono (fun q y => by unfold tkP at y; omega))
    have ky4 : Kp (fun q => q = 166 ∨ q = 168 ∨ q = 169 ∨ q = 171) wy v4 := ((((kp0 (P := fun q => q = 166 ∨ q = 168 ∨ q = 169 ∨ q = 171) (Or.inl rfl)).trans (kv1.mono (fun q y => Or.inl y))).trans (kv2.mono (fun q y => Or.inl y))).trans (kv3.mono (fun q y => by omega))).trans (k4.mono (fun q y => Or.inl y))
    have fm4 : Fm hmF wy v4 := fun j hj => by
      have a1 : ¬ nxF j := fun q => hj (by unfold hmF lyF; exact Or.inr (Or.inr (Or.inl (Or.inl q))))
      have a2 : ¬ (j = 0 ∨ (2 ≤ j ∧ j ≤ 5) ∨ j = 15 ∨ j = 19 ∨ j = 20 ∨ j = 21) := fun q => hj (by unfold hmF lyF; omega)
      rw [f4' j a1, kv3.I (by decide), fv2 j (by omega), fv1 j (by omega), wI_other (by omega)]
    have y24 : wI v4 166 2 = 0 := by rw [f4' 2 (by unfold nxF; omega), kv3.I (by decide), fv2 2 (by omega)]; exact y2
    have e168 : wI v4 168 = wI wy 168 := by rw [k4.I (by decide), kv3.I (by decide), kv2.I (by decide), kv1.I (by decide), wI_row (by decide)]
    have e171 : wL v4 171 = wL wy 171 := by rw [k4.L (by decide), kv3.L (by decide), kv2.L (by decide), kv1.L (by decide), wL_sI']
    have e23 : wI v4 166 23 = wI wy 166 23 := by rw [f4' 23 (by unfold nxF; omega), kv3.I (by decide), fv2 23 (by omega), fv1 23 (by omega), wI_other (by omega)]
    have fzm : ∀ {q : Wd}, FZ v4 q → Kp (fun q => q = 166 ∨ q = 168 ∨ q = 169 ∨ q = 171) wy q ∧ Fm hmF wy q ∧ wI q 166 2 = 0 := fun {q} hq => by
      refine ⟨ky4.trans (hq.1.mono (fun q y => by omega)), fun j hj => ?_, ?_⟩
      · rw [hq.2.1 j (fun z => hj (by unfold hmF; rcases z with z | z; exact Or.inr (Or.inr (Or.inl z)); omega)), fm4 j hj]
      · rw [hq.2.1 2 (by unfold lyF nxF; omega), y24]
    refine tp_of_t2 (house_loop (p := p) (γ := Int32 ⊕ Int32) Sum.inr (fun w => itM (fun (v1_20 : Int32) (w22 : Wd) => if v1_20 < 10265 then (if v1_20 < 429 then (gd (ib v1_20 429) (gd (ib v1_20 10265) (stI w22 (166 + 2) (ix v1_20) (wI w22 (166 + 3) (ix v1_20)) (fun w25 => lt (v1_20 + 1 : Int32) (fun v1_26 => some (.inl v1_26, w25)))))) else (gd (ib v1_20 10265) (stI w22 (166 + 2) (ix v1_20) 0 (fun w27 => lt (v1_20 + 1 : Int32) (fun v1_28 => some (.inl v1_28, w27)))))) else (itM (fun (v1_29 : Int32) (w31 : Wd) => if v1_29 < 12 then (gd (ib (12 + v1_29) 24) (gd (ib v1_29 24) (stL w31 (166 + 5) (ix v1_29) (wL w31 (166 + 5) (ix (12 + v1_29))) (fun w33 => lt (v1_29 + 1 : Int32) (fun v1_34 => some (.inl v1_34, w33)))))) else (stI w31 166 23 0 (fun w35 => some (.inr (.inr (.inr (.inr (wI w35 166 19)))), w35)))) FU 0 w22)) FU 0 w) (by omega) ⟨hXQ, hY4, hD4⟩ (f4z 19 (by omega)) (Q := fun r1 w1 r2 w2 => ∃ v, r2 = .inr v ∧ HQ o wx wy r1 w1 v w2) (fun L S' w1 w2 hL hl hLn fx fz f19 => ?_) (fun w1 w2 fx fz hfl => ?_)) (fun r1 w1 r2 w2 e1 hQ => ?_)
    · refine tp_mono y_copyin (fun r w3 g3 => ⟨_, g3.1, _, rfl, ?_⟩)
      obtain ⟨-, c1, c2, c3, c4, c5, c6, c7⟩ := g3
      obtain ⟨z1, z2, z3⟩ := fzm fz
      have hm7 : Fm hmF w2 w3 := fun j hj => c7 j (fun y => hj (by unfold hmF; omega))
      obtain ⟨d1, d2, d3, d4, d5, -⟩ := hLn.2.2
      refine ⟨kx2.trans (fx.mono (fun q y => by omega)), z1.trans (c6.mono (fun q y => by omega)), fun j hj => (hm7 j hj).trans (z2 j hj), ?_, ?_, Or.inr ⟨L, S', rfl, f19, hL, d2, d3, ?_, d5, fun i hi => ?_, c2, fun i hi => ?_, c5⟩⟩
      · rw [c7 2 (by decide)]; exact z3
      · rw [c7 15 (by decide), hLn.1.2, hLn.2.1.2.2.2]
      · exact d4.names d2 (fun i hi => c4 i hi)
      · rw [c1 i hi, d1]
      · rw [c3 i hi, fz.1.I (by decide), e168]
    · obtain ⟨z1, z2, z3⟩ := fzm fz
      refine ⟨_, rfl, kx2.trans (fx.mono (fun q y => by omega)), z1, z2, z3, hfl.1, Or.inl ⟨rfl, hfl.2, rfl, ?_, fun i hi => ?_, ?_⟩⟩
      · rw [fz.1.I (by decide), e168]
      · rw [fz.2.2 i hi, e171]
      · rw [fz.2.1 23 (by unfold lyF nxF; omega), e23]
    · obtain ⟨v, er, hQ⟩ := hQ
      rw [er]
      exact ⟨r1, w1, e1, hQ⟩
end HT
