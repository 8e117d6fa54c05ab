/-! house(), whole -/
theorem t2_R1 {α β : Type} {m2 : Option (β × Wd)} {Q : α → Wd → β → Wd → Prop} {w : Wd} {o j : Nat} {v : Option Nat} {f : Wd → Option (α × Wd)} (k : t2 (f (sR w o j v)) m2 Q) : t2 (stR w o j v f) m2 Q := k
section H5
variable {n : Nat} {b : Nat → Nat} {S : Nat → Int32} {w w' wx wy : Wd} {f : Nat → Int64}
theorem x_clearR : tp (sh_61 35 w) (fun _ w' => wI w' 35 0 = 0 ∧ (∀ i, i < 7776 → wI w' 36 i = 0) ∧ (∀ i, i < 1296 → wI w' 37 i = 0) ∧ (∀ i, i < 144 → wI w' 38 i = -1) ∧ (∀ i, i < 6 → wI w' 42 i = 0) ∧ Kp (fun q => 35 ≤ q ∧ q ≤ 42) w w') := by
  unfold sh_61
  refine tp_stG (fun w0 e0 k0 => ?_)
  have z0 : wI w0 35 0 = 0 := by rw [e0, up_s]
  refine tp_it (fun j s w' => s = nI j ∧ j ≤ 7776 ∧ (∀ i, i < j → wI w' 36 i = 0) ∧ Kp (fun q => q = 36) w0 w') 7776 (by omega) ⟨rfl, by omega, fun i hi => by omega, Kp.refl⟩ (fun j s w1 hI => ?_)
  obtain ⟨e, hj, g1, k1⟩ := hI
  subst e
  refine tp_ite (fun hlt => ?_) (fun hlt => ?_)
  · have hj8 : j < 7776 := (nlt_i (by omega) (by decide)).mp (show nI j < nI 7776 from hlt)
    rw [ix_nI (by omega), nI_s]
    refine tp_gd (ib_nI hj8 (by decide)) (tp_stG (fun w2 e2 k2 => tp_lt (tp_on ⟨hj8, rfl, by omega, fun i hi => ?_, k1.trans k2⟩)))
    rw [show wI w2 36 = wI w2 (35 + 1) from rfl, e2]
    by_cases y : i = j
    · rw [y, up_s]
    · rw [up_o y]; exact g1 i (by omega)
  have hj8 : j = 7776 := by
    by_cases q : j < 7776
    · exact absurd (nlt q (by decide) : nI j < nI 7776) hlt
    · omega
  subst hj8
  refine tp_it (fun j s w' => s = nI j ∧ j ≤ 1296 ∧ (∀ i, i < j → wI w' 37 i = 0) ∧ Kp (fun q => q = 37) w1 w') 1296 (by omega) ⟨rfl, by omega, fun i hi => by omega, Kp.refl⟩ (fun j s w2 hI => ?_)
  obtain ⟨e, hj, g2, k2⟩ := hI
  subst e
  refine tp_ite (fun hlt => ?_) (fun hlt => ?_)
  · have hj8 : j < 1296 := (nlt_i (by omega) (by decide)).mp (show nI j < nI 1296 from hlt)
    rw [ix_nI (by omega), nI_s]
    refine tp_gd (ib_nI hj8 (by decide)) (tp_stG (fun w3 e3 k3 => tp_lt (tp_on ⟨hj8, rfl, by omega, fun i hi => ?_, k2.trans k3⟩)))
    rw [show wI w3 37 = wI w3 (35 + 2) from rfl, e3]
    by_cases y : i = j
    · rw [y, up_s]
    · rw [up_o y]; exact g2 i (by omega)
  have hj8 : j = 1296 := by
    by_cases q : j < 1296
    · exact absurd (nlt q (by decide) : nI j < nI 1296) hlt
    · omega
  subst hj8
  refine tp_it (fun j s w' => s = nI j ∧ j ≤ 144 ∧ (∀ i, i < j → wI w' 38 i = -1) ∧ Kp (fun q => q = 38) w2 w') 144 (by omega) ⟨rfl, by omega, fun i hi => by omega, Kp.refl⟩ (fun j s w3 hI => ?_)
  obtain ⟨e, hj, g3, k3⟩ := hI
  subst e
  refine tp_ite (fun hlt => ?_) (fun hlt => ?_)
  · have hj8 : j < 144 := (nlt_i (by omega) (by decide)).mp (show nI j < nI 144 from hlt)
    rw [ix_nI (by omega), nI_s]
    refine tp_gd (ib_nI hj8 (by decide)) (tp_stG (fun w4 e4 k4 => tp_lt (tp_on ⟨hj8, rfl, by omega, fun i hi => ?_, k3.trans k4⟩)))
    rw [show wI w4 38 = wI w4 (35 + 3) from rfl, e4]
    by_cases y : i = j
    · rw [y, up_s]
    · rw [up_o y]; exact g3 i (by omega)
  have hj8 : j = 144 := by
    by_cases q : j < 144
    · exact absurd (nlt q (by decide) : nI j < nI 144) hlt
    · omega
  subst hj8
  refine tp_it (fun j s w' => s = nI j ∧ j ≤ 6 ∧ (∀ i, i < j → wI w' 42 i = 0) ∧ Kp (fun q => q = 42) w3 w') 6 (by omega) ⟨rfl, by omega, fun i hi => by omega, Kp.refl⟩ (fun j s w4 hI => ?_)
  obtain ⟨e, hj, g4, k4⟩ := hI
  subst e
  refine tp_ite (fun hlt => ?_) (fun hlt => ?_)
  · have hj8 : j < 6 := (nlt_i (by omega) (by decide)).mp (show nI j < nI 6 from hlt)
    rw [ix_nI (by omega), nI_s]
    refine tp_gd (ib_nI hj8 (by decide)) (tp_stG (fun w5 e5 k5 => tp_lt (tp_on ⟨hj8, rfl, by omega, fun i hi => ?_, k4.trans k5⟩)))
    rw [show wI w5 42 = wI w5 (35 + 7) from rfl, e5]
    by_cases y : i = j
    · rw [y, up_s]
    · rw [up_o y]; exact g4 i (by omega)
  have hj8 : j = 6 := by
    by_cases q : j < 6
    · exact absurd (nlt q (by decide) : nI j < nI 6) hlt
    · omega
  subst hj8
  refine tp_some ?_
  refine ⟨by rw [k4.I (by decide), k3.I (by decide), k2.I (by decide), k1.I (by decide)]; exact z0, fun i hi => by rw [k4.I (by decide), k3.I (by decide), k2.I (by decide)]; exact g1 i hi, fun i hi => by rw [k4.I (by decide), k3.I (by decide)]; exact g2 i hi, fun i hi => by rw [k4.I (by decide)]; exact g3 i hi, g4, ?_⟩
  exact ((((k0.mono (fun q y => by omega)).trans (k1.mono (fun q y => by omega))).trans (k2.mono (fun q y => by omega))).trans (k3.mono (fun q y => by omega))).trans (k4.mono (fun q y => by omega))
/-- a clean rug -/
theorem RR.clean (hz : ∀ i, 429 ≤ i → i < 10265 → S i = 0) (h0 : wI w 35 0 = 0) (h1 : ∀ i, i < 7776 → wI w 36 i = 0) (h2 : ∀ i, i < 1296 → wI w 37 i = 0) (h3 : ∀ i, i < 144 → wI w 38 i = -1) (h7 : ∀ i, i < 6 → wI w 42 i = 0) : RR S w 35 ∧ WR S := by
  have e429 : S 429 = nI 0 := hz 429 (by omega) (by omega)
  have zl : ∀ t k a, t < 144 → k < 6 → a < 9 → S (LI t k a) = 0 := fun t k a ht hk ha => hz _ (by unfold LI; omega) (by unfold LI; omega)
  have zw : ∀ t a, t < 144 → a < 9 → wsum S t a = 0 := fun t a ht ha => sm_0 (fun k hk => by rw [zl t k a ht hk ha, Int32.zero_mul])
  refine ⟨⟨by rw [h0]; exact (hz 429 (by omega) (by omega)).symm, fun k hk => ?_, fun t k a ht hk ha => ?_, fun t a ht ha => ?_, fun t ht => Or.inl ⟨hz _ (by omega) (by omega), h3 t ht⟩⟩, ⟨0, e429, by omega⟩, fun t k a ht hk ha _ => zl t k a ht hk ha, fun t a ht ha _ => hz _ (by omega) (by omega), fun t ht _ k a hk ha => zl t k a ht hk ha, fun t ht hp => ?_⟩
  · rw [show wI w (35 + 7) k = wI w 42 k from rfl, h7 k hk, hz _ (by omega) (by omega)]
  · have := @sl_lt (ix (S 429)) a
    rw [show wI w (35 + 1) = wI w 36 from rfl, h1 _ (by unfold PI; omega), zl t k a ht hk ha]
  · have := @sl_lt (ix (S 429)) a
    rw [show wI w (35 + 2) = wI w 37 from rfl, h2 _ (by omega), hz _ (by omega) (by omega), zw t a ht ha]; decide
  · obtain ⟨p, hp, e⟩ := hp
    rw [hz _ (by omega) (by omega)] at e
    exact absurd e (n_ne (a := 0) (b := p + 1) (by omega) (by omega) (by omega))
def h1P (q : Nat) : Prop := (1 ≤ q ∧ q ≤ 5) ∨ (7 ≤ q ∧ q ≤ 26)
def h2P (q : Nat) : Prop := q ≤ 42 ∧ ¬ q = 6
theorem j_15 (hG : XG S wx) (hN : XN S f wx) (hX : XT n b wx) (hS : wI wy 168 = S) (hf : MN f wy) (hM : MT n b wy) (hW : WRD wy) : t2 (sh_15 0 wx) (sh_189 166 wy) (fun r1 w1 r2 w2 => r1 = r2 ∧ XT 0 b w1 ∧ MT 0 b w2 ∧ wI w1 1 2 = wI w2 166 15 ∧ Kp (fun q => q = 166 ∨ q = 168 ∨ q = 169 ∨ q = 171) wy w2 ∧ Fm hmF wy w2 ∧
    ((Kp h1P wx w1 ∧ XG S w1 ∧ XN S f w1 ∧ wI w2 168 = S ∧ MN f w2 ∧ wI w2 166 23 = wI wy 166 23) ∨
    (∃ S' f' v c d, XG S' w1 ∧ XN S' f' w1 ∧ wI w2 168 = S' ∧ MN f' w2 ∧ DS S' ∧ wI w1 0 9 = 0 ∧ wI w2 166 23 = 0 ∧ Kp h1P wx v ∧ Kp h2P (sR (sR v 0 2 (some c)) 0 3 (some d)) w1 ∧ ∀ j, ¬ j = 9 → wI w1 0 j = wI wx 0 j))) := by
  obtain ⟨hF, hWR, hR, a, ea, h7, hH⟩ := hG
  obtain ⟨a', o, s, u, e2, e3, e4, e5, hao, hsu, hNm, hSR⟩ := hN
  have : a' = a := by rw [ea] at e2; exact (Option.some.inj e2).symm
  subst this
  have ho : o = 7 ∨ o = 17 := by omega
  unfold sh_15
  rw [der_e e3]
  obtain ⟨r1, w1, er1, r2, w2, er2, hQ⟩ := j_house (p := 6) hX hM hW ho
  obtain ⟨kx, ky, fm, y2, fl, hQ⟩ := hQ
  refine t2_e1 er1 (t2_g1 (fun w3 e3' k3 => ?_))
  have kx1 : Kp h1P wx w1 := kx.mono (fun q y => by unfold h1P; omega)
  have kx3 : Kp h1P wx w3 := kx1.trans (k3.mono (fun q y => by unfold h1P; omega))
  have hXT : XT 0 b w3 := ⟨by omega, by rw [show wI w3 1 = wI w3 (0 + 1) from rfl, e3', up_s]; rfl, fun j hj => by omega⟩
  have hMT : MT 0 b w2 := ⟨y2, fun j hj => by omega⟩
  have fl3 : wI w3 1 2 = wI w2 166 15 := by rw [show wI w3 1 = wI w3 (0 + 1) from rfl, e3', up_o (by decide)]; exact fl
  have kao : ∀ {P : Nat → Prop} {v v' : Wd}, HR S v a' → Kp P v v' → (∀ q, a' ≤ q → q ≤ a' + 9 → ¬ P q) → HR S v' a' := fun h1 h2 h3 => h1.kp h2 h3
  rcases hQ with ⟨q1, q2, q3, q4, q5, q6⟩ | ⟨L, S', q1, q2, q3, q4, q5, q6, q7, q8, q9, q10, q11⟩
  · refine t2_if1 q1 (tp_some (tp_eq er2 ?_))
    have hd : ∀ q, (a' ≤ q ∧ q ≤ a' + 9) ∨ (27 ≤ q ∧ q ≤ 42) → ¬ ((1 ≤ q ∧ q ≤ 5) ∨ (o ≤ q ∧ q ≤ o + 9)) := fun q hq => by omega
    have kz : Kp (fun q => (1 ≤ q ∧ q ≤ 5) ∨ (o ≤ q ∧ q ≤ o + 9)) wx w3 := kx.trans (k3.mono (fun q y => by omega))
    refine ⟨?_, hXT, hMT, fl3, ky, fm, Or.inl ⟨kx3, ⟨hF, hWR, hR.kp kz (fun q h1 h2 => by omega), a', by rw [kz.R]; exact ea, h7, hH.kp kz (fun q h1 h2 => hd q (Or.inl ⟨h1, h2⟩))⟩, ⟨a', o, s, u, by rw [kz.R]; exact ea, by rw [kz.R]; exact e3, by rw [kz.R]; exact e4, by rw [kz.R]; exact e5, hao, hsu, hNm.kp kz (fun q h1 h2 => by omega), hSR.kp kz (fun q h1 h2 => by omega)⟩, by rw [q4]; exact hS, fun i hi => by rw [q5 i hi]; exact hf i hi, q6⟩⟩
    rw [q3, ← q2, show wI w3 (0 + 1) 3 = wI w1 1 3 by rw [e3', up_o (by decide)]]
  · have hL1 : ¬ r1 = -1 := by rw [q1]; exact n_m1 (by omega)
    refine t2_ifn1 hL1 ?_
    rw [der_e (by rw [kx3.R]; exact ea), der_e (by rw [kx3.R]; exact e3)]
    refine t2_R1 (t2_R1 ?_)
    obtain ⟨w4, ew4⟩ : ∃ w4, w4 = sR (sR w3 0 2 (some o)) 0 3 (some a') := ⟨_, rfl⟩
    rw [← ew4]
    have i4 : wI w4 = wI w3 := by rw [ew4]; rfl
    have l4 : wL w4 = wL w3 := by rw [ew4]; rfl
    have r2' : wR w4 0 2 = some o := by rw [ew4, wR_sR, if_neg (by omega), wR_sR, if_pos ⟨rfl, rfl⟩]
    have r3' : wR w4 0 3 = some a' := by rw [ew4, wR_sR, if_pos ⟨rfl, rfl⟩]
    have ro : ∀ j, ¬ j = 2 → ¬ j = 3 → wR w4 0 j = wR wx 0 j := fun j h2 h3 => by rw [ew4, wR_sR, if_neg (by omega), wR_sR, if_neg (by omega), kx3.R]
    refine t2_1 x_clearR (fun _ w5 g5 => ?_)
    obtain ⟨c0, c1, c2, c3, c7, k5⟩ := g5
    rw [der_e (by rw [k5.R, ro 4 (by decide) (by decide)]; exact e4)]
    refine t2_e1 (w' := sI (sI w5 s 0 0) s 1 0) (r := ()) rfl ?_
    obtain ⟨w6, ew6⟩ : ∃ w6, w6 = sI (sI w5 s 0 0) s 1 0 := ⟨_, rfl⟩
    rw [← ew6]
    have k6 : Kp (fun q => q = s) w5 w6 := by rw [ew6]; exact (kp0 (P := fun q => q = s) rfl).sI rfl _ _
    have s0 : wI w6 s 0 = 0 := by rw [ew6, wI_other (by decide), wI_same]
    have s1 : wI w6 s 1 = 0 := by rw [ew6, wI_same]
    refine t2_g1 (fun w7 e7 k7 => tp_some (tp_eq er2 ?_))
    have kall : Kp (fun q => (35 ≤ q ∧ q ≤ 42) ∨ q = s ∨ q = 0) w4 w7 := ((k5.mono (fun q y => Or.inl y)).trans (k6.mono (fun q y => Or.inr (Or.inl y)))).trans (k7.mono (fun q y => Or.inr (Or.inr y)))
    have hz : ∀ i, 429 ≤ i → i < 10265 → wI w2 168 i = 0 := q9
    have hH5 : HR S' w4 o := by
      have := q5.kp k3 (fun q h1 h2 => by omega)
      unfold HR at this ⊢
      rw [i4]; exact this
    have hN5 : NM S' w4 o (fun i => wL w2 171 i) := by
      have := q6.kp k3 (fun q h1 h2 => by omega)
      unfold NM at this ⊢
      rw [l4]; exact this
    have eS : ∀ i, i < 429 → wI w2 168 i = S' i := q8
    have hF' : WF (wI w2 168) := q4.cong eS
    obtain ⟨hRR, hWR'⟩ := RR.clean (S := wI w2 168) (w := w7) hz (by rw [k7.I (by omega), k6.I (by omega)]; exact c0) (fun i hi => by rw [k7.I (by omega), k6.I (by omega)]; exact c1 i hi) (fun i hi => by rw [k7.I (by omega), k6.I (by omega)]; exact c2 i hi) (fun i hi => by rw [k7.I (by omega), k6.I (by omega)]; exact c3 i hi) (fun i hi => by rw [k7.I (by omega), k6.I (by omega)]; exact c7 i hi)
    refine ⟨by rw [q1, q2], ⟨by omega, ?_, fun j hj => by omega⟩, hMT, ?_, ky, fm, Or.inr ⟨wI w2 168, fun i => wL w2 171 i, w3, o, a', ⟨hF', hWR', hRR, o, by rw [kall.R]; exact r2', ho, (hH5.kp kall (fun q h1 h2 => by omega)).cong q4 eS⟩, ⟨o, a', s, u, by rw [kall.R]; exact r2', by rw [kall.R]; exact r3', by rw [kall.R, ro 4 (by decide) (by decide)]; exact e4, by rw [kall.R, ro 5 (by decide) (by decide)]; exact e5, by omega, hsu, (hN5.kp kall (fun q h1 h2 => by omega)).cong (eS 2 (by decide)) (eS 3 (by decide)), ?_⟩, rfl, fun i _ => rfl, ?_, by rw [e7, up_s], q11, kx3, ?_, fun j hj => ?_⟩⟩
    · rw [kall.I (by omega), i4]; exact hXT.2.1
    · rw [kall.I (by omega), i4]; exact fl3
    · refine ⟨0, fun _ => 0, by omega, hz _ (by omega) (by omega), ?_, ?_, rfl, fun h => by omega, fun i hi => by omega⟩
      · rw [k7.I (by omega)]; exact s1
      · rw [k7.I (by omega), s0]; exact ⟨fun _ => rfl, fun _ => rfl⟩
    · intro k l hk hl
      rw [eS 5 (by decide)] at hk hl
      obtain ⟨D, eD, hD⟩ := q4.2.2.2.2.1
      have hk8 : k < 8 := by rw [eD, ix_nI (by omega)] at hk; omega
      have hl8 : l < 8 := by rw [eD, ix_nI (by omega)] at hl; omega
      rw [eS _ (by omega), eS _ (by omega)]
      exact q7 k l hk hl
    · rw [← ew4]; exact kall.mono (fun q y => by unfold h2P; omega)
    · rw [e7, up_o hj, k6.I (by omega), k5.I (by omega), i4, kx3.I (by unfold h1P; omega)]
end H5
