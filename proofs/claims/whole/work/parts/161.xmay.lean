/-! READINGS: whether somebody may walk a WAY; one is told; what is free is added -/
section XW
variable {S : Nat → Int32} {w w' : Wd} {n T Y P B M a t k fe : Nat} {b A c D Z : Nat → Nat}
theorem n_sub_neg {x y : Nat} (h : x < y) (hy : y < 1000000000) : ¬ (0 : Int32) ≤ nI x - nI y := by
  intro z
  have z1 := (i_le _ _).mp z
  have h1 : (nI x).toInt = (x : Int) := i_nI (by omega)
  have h2 : (nI y).toInt = (y : Int) := i_nI (by omega)
  rw [i_sub (by rw [h1, h2]; omega), h1, h2] at z1
  have h0 : (0 : Int32).toInt = 0 := rfl
  rw [h0] at z1
  omega
theorem n_bi1 {k : Nat} (hk : k < 1000) : (nI k - 1 = -1 ↔ k = 0) := by
  constructor
  · intro h
    rcases k with _ | k
    · rfl
    · rw [nI_pred] at h
      exact absurd h (n_m1 (by omega))
  · intro h; rw [h]; rfl
/-- whether somebody may walk a WAY: digit c k of it -/
theorem x_116 (hF : WF S) (hR : HR S w a) (ha : a = 7 ∨ a = 17) (hY : S 3 = nI Y) (hY6 : Y ≤ 6) (hP : S 2 = nI P) (hP6 : P ≤ 6) (hT : T ≤ 8) (hM : M ≤ 81) (hMw : ∀ p, p < P → ix (S (7 + p)) * ix (S 6) ≤ M) (h : RDS S b T M w) (hb : ∀ p, p < 4 * T → b p < 256) (hk : k < Y) (hcP : c k ≤ P) (hO : OKK S (rdA b) (fun t => b (4 * t + 2)) (fun t => b (4 * t + 3)) T M c k) (hL : ∀ t, t < T → wI w 54 (8 * k + t) = nI (b (4 * t + 2) - depN S (rdA b) c t k) ∧ wI w 56 (8 * k + t) = tpS S (rdA b) c t k) : tp (sh_116 48 a (nI k) (nI (c k) - 1) w) (fun r w' => Kp (fun q => q = 54 ∨ q = 56) w w' ∧ (∀ p, p < 8 * (k + 1) → wI w' 54 p = wI w 54 p ∧ wI w' 56 p = wI w 56 p) ∧ (r = true ↔ OKK S (rdA b) (fun t => b (4 * t + 2)) (fun t => b (4 * t + 3)) T M c (k + 1)) ∧ (r = true → ∀ t, t < T → wI w' 54 (8 * (k + 1) + t) = nI (b (4 * t + 2) - depN S (rdA b) c t (k + 1)) ∧ wI w' 56 (8 * (k + 1) + t) = tpS S (rdA b) c t (k + 1))) := by
  obtain ⟨h1, ht, hkk, hc⟩ := h
  obtain ⟨F, eF, hF1, hF9⟩ := hF.2.2.2.2.2.1
  -- the weight
  obtain ⟨E, eE, eC⟩ : ∃ E, (atK S 2 7 0 (nI (c k) - 1)) * S 6 = nI E ∧ ∀ t, rdC S (rdA b) c t k = rdP S (rdA b) k t * E := by
    by_cases q : c k = 0
    · refine ⟨0, ?_, fun t => by unfold rdC; rw [if_pos q, Nat.mul_zero]⟩
      have : isK S 2 (nI (c k) - 1) = false := by
        rw [q]
        rfl
      unfold atK
      rw [if_neg (by rw [this]; decide), eF, show (0 : Int32) = nI 0 from rfl, nI_m, Nat.zero_mul]
    · obtain ⟨W, F', e1, e2, g1, g2, g3, g4⟩ := hF.wf (k := c k - 1) (by rw [hP, ix_nI (by omega)]; omega)
      refine ⟨W * F', ?_, fun t => by unfold rdC; rw [if_neg q, e1, e2, ix_nI (by omega), ix_nI (by omega)]⟩
      have eq : nI (c k) - 1 = nI (c k - 1) := n_sub (y := 1) (by omega)
      unfold atK
      rw [eq, isK_nI (by omega) hP (by omega), if_pos (decide_eq_true (by omega)), ix_nI (by omega), e1, e2, nI_m]
  have hib6 : ib (nI k) 6 = true := ib_nI (by omega) (by decide)
  unfold sh_116
  refine tp_if (n0le (by omega)) (tp_ifn (show ¬ (6 : Int32) ≤ nI k from nnle (a := 6) (b := k) (by omega) (by decide)) (tp_ce (x_weightOf hF hR _) (tp_ce (x_fadeDays hR) (tp_lt ?_))))
  rw [eE]
  refine tp_it (fun t st x => st = nI t ∧ t ≤ T ∧ Kp (fun q => q = 54 ∨ q = 56) w x ∧ (∀ p, p < 8 * (k + 1) → wI x 54 p = wI w 54 p ∧ wI x 56 p = wI w 56 p) ∧ ∀ t', t' < t → (wI x 54 (8 * (k + 1) + t') = nI (b (4 * t' + 2) - depN S (rdA b) c t' (k + 1)) ∧ wI x 56 (8 * (k + 1) + t') = tpS S (rdA b) c t' (k + 1)) ∧ (depN S (rdA b) c t' (k + 1) ≤ b (4 * t' + 2) ∧ b (4 * t' + 2) - depN S (rdA b) c t' (k + 1) ≤ mcN S (rdA b) M t' (k + 1) ∧ ((∀ k', k + 1 ≤ k' → k' < 6 → rdP S (rdA b) k' t' = 0) → b (4 * t' + 3) = 255 ∨ nI (b (4 * t' + 3)) = tpS S (rdA b) c t' (k + 1)))) T (by omega) ⟨rfl, Nat.zero_le _, Kp.refl, fun p _ => ⟨rfl, rfl⟩, fun t' h => by omega⟩ (fun t st x hI => ?_)
  obtain ⟨es, htt, kx, hlo, hdone⟩ := hI
  rw [es, show wI x 48 1 = nI T by rw [kx.I (by decide)]; exact h1]
  by_cases q : t < T
  · obtain ⟨o1, o2, o3⟩ := hO t q
    have o1' : depN S (rdA b) c t k ≤ b (4 * t + 2) := o1
    obtain ⟨-, z50, zL⟩ := ht t q
    have b2 := hb (4 * t + 2) (by omega)
    have b3 := hb (4 * t + 3) (by omega)
    have ed : depN S (rdA b) c t (k + 1) = depN S (rdA b) c t k + rdP S (rdA b) k t * E := by rw [← eC t]; rfl
    have hC := rdC_le (A := rdA b) (t := t) (c := c) (k := k) hF (by rw [hP, ix_nI (by omega)]; exact hcP)
    rw [eC t] at hC
    have hm := mcN_le (A := rdA b) (t := t) hF hM (6 - (k + 1)) (k + 1) (by omega)
    have et : tpS S (rdA b) c t (k + 1) = (if c k = 0 then tpS S (rdA b) c t k else if rdP S (rdA b) k t = 0 then tpS S (rdA b) c t k else S (13 + (c k - 1))) := rfl
    have l8 : nI k * 8 + nI t = nI (8 * k + t) := by rw [show nI k * 8 = nI (k * 8) from nI_m (b := 8), nI_p, Nat.mul_comm]
    have hibT : ib (nI t) 8 = true := ib_nI (by omega) (by decide)
    refine tp_if (nlt q (by omega)) (tp_if (show nI t < nI 8 from nlt (by omega) (by omega)) (tp_lt (tp_lt ?_)))
    rw [l8, show nI (8 * k + t) + 8 = nI (8 * (k + 1) + t) by rw [show nI (8 * k + t) + 8 = nI (8 * k + t + 8) from nI_p _ 8, show 8 * k + t + 8 = 8 * (k + 1) + t by omega]]
    have hibA : ib (nI (8 * k + t)) 56 = true := ib_nI (by omega) (by decide)
    have hibB : ib (nI (8 * (k + 1) + t)) 56 = true := ib_nI (by omega) (by decide)
    have hibC : ib (nI (8 * k + t)) 48 = true := ib_nI (by omega) (by decide)
    rw [ix_nI (show 8 * k + t < 2147483648 by omega), ix_nI (show 8 * (k + 1) + t < 2147483648 by omega), ix_nI (show t < 2147483648 by omega)]
    have y54 : wI x (48 + 6) (8 * k + t) = nI (b (4 * t + 2) - depN S (rdA b) c t k) := by rw [show wI x (48 + 6) = wI x 54 from rfl, (hlo _ (by omega)).1]; exact (hL t q).1
    have y56 : wI x 56 (8 * k + t) = tpS S (rdA b) c t k := by rw [(hlo _ (by omega)).2]; exact (hL t q).2
    have y52 : ∀ {z : Wd}, Kp (fun q => q = 54 ∨ q = 56) w z → wI z (48 + 4) (8 * k + t) = nI (rdP S (rdA b) k t) := fun hz => by rw [show wI _ (48 + 4) = wI w 52 from hz.I (by decide)]; exact (hkk k (by omega)).2 t q
    rw [y54, y52 kx, nI_m]
    refine tp_gd hibA (tp_gd hibC (tp_gd hibB (tp_stG (fun x1 e1 k1 => ?_))))
    have kx1 : Kp (fun q => q = 54 ∨ q = 56) w x1 := kx.trans (k1.mono (fun q y => Or.inl y))
    have r1 : wI x1 54 = up (wI x 54) (8 * (k + 1) + t) (nI (b (4 * t + 2) - depN S (rdA b) c t k) - nI (rdP S (rdA b) k t * E)) := e1
    refine tp_jnP (fun v x2 => v = tpS S (rdA b) c t (k + 1) ∧ x2 = x1) (fun j16 hj => ?_) (fun v x2 hv => ?_)
    · -- the top
      have hR1 : HR S x1 a := hR.kp kx1 (fun q h1 h2 => by omega)
      refine tp_jnP (fun _ x2 => x2 = x1 ∧ tpS S (rdA b) c t (k + 1) = tpS S (rdA b) c t k) (fun j28 hj2 => ?_) (fun _ x2 hx2 => ?_)
      · by_cases q0 : c k = 0
        · exact tp_if ((n_bi1 (by omega)).mpr q0) (hj2 _ _ ⟨rfl, by rw [et, if_pos q0]⟩)
        · refine tp_ifn (fun z => q0 ((n_bi1 (by omega)).mp z)) (tp_gd hibC ?_)
          rw [y52 kx1]
          have hr := rdP_le (A := rdA b) hF k t
          by_cases q1 : rdP S (rdA b) k t = 0
          · exact tp_ifn (by rw [q1]; decide) (hj2 _ _ ⟨rfl, by rw [et, if_neg q0, if_pos q1]⟩)
          · refine tp_if (jp (by omega) (by omega)) (tp_ce (x_soleOf hF hR1 _) (hj _ _ ⟨?_, rfl⟩))
            rw [et, if_neg q0, if_neg q1, show nI (c k) - 1 = nI (c k - 1) from n_sub (y := 1) (by omega)]
            unfold atK
            rw [isK_nI (by omega) hP (by omega), if_pos (decide_eq_true (by omega)), ix_nI (by omega)]
      · refine tp_gd hibA (hj _ _ ⟨?_, hx2.1⟩)
        rw [hx2.1, hx2.2, show wI x1 (48 + 8) = wI x 56 from k1.I (by decide)]
        exact y56
    · obtain ⟨ev, ex2⟩ := hv
      rw [ev, ex2]
      refine tp_gd hibB (tp_stG (fun x3 e3 k3 => tp_gd hibB ?_))
      have kx3 : Kp (fun q => q = 54 ∨ q = 56) w x3 := kx1.trans (k3.mono (fun q y => Or.inr y))
      have r3 : wI x3 56 = up (wI x 56) (8 * (k + 1) + t) (tpS S (rdA b) c t (k + 1)) := by rw [show wI x3 56 = wI x3 (48 + 8) from rfl, e3, k1.I (by decide)]
      have r54 : wI x3 54 = up (wI x 54) (8 * (k + 1) + t) (nI (b (4 * t + 2) - depN S (rdA b) c t k) - nI (rdP S (rdA b) k t * E)) := by rw [k3.I (by decide)]; exact r1
      have lo3 : ∀ p, p < 8 * (k + 1) → wI x3 54 p = wI w 54 p ∧ wI x3 56 p = wI w 56 p := fun p hp => by
        rw [r3, r54, up_o (by omega), up_o (by omega)]; exact hlo p hp
      rw [show wI x3 (48 + 6) (8 * (k + 1) + t) = nI (b (4 * t + 2) - depN S (rdA b) c t k) - nI (rdP S (rdA b) k t * E) by rw [show wI x3 (48 + 6) = wI x3 54 from rfl, r54, up_s], show wI x3 (48 + 7) (8 * (k + 1) + t) = nI (mcN S (rdA b) M t (k + 1)) by rw [show wI x3 (48 + 7) = wI w 55 from kx3.I (by decide)]; exact hc (k + 1) (by omega) t q, show wI x3 (48 + 3) t = wI w 51 t by rw [show wI x3 (48 + 3) = wI w 51 from kx3.I (by decide)], show wI x3 (48 + 2) t = nI (b (4 * t + 3)) by rw [show wI x3 (48 + 2) = wI w 50 from kx3.I (by decide)]; exact z50, show wI x3 (48 + 8) (8 * (k + 1) + t) = tpS S (rdA b) c t (k + 1) by rw [show wI x3 (48 + 8) = wI x3 56 from rfl, r3, up_s]]
      have no : ∀ {Q : Prop}, ¬ (depN S (rdA b) c t (k + 1) ≤ b (4 * t + 2) ∧ b (4 * t + 2) - depN S (rdA b) c t (k + 1) ≤ mcN S (rdA b) M t (k + 1) ∧ ((∀ k', k + 1 ≤ k' → k' < 6 → rdP S (rdA b) k' t = 0) → b (4 * t + 3) = 255 ∨ nI (b (4 * t + 3)) = tpS S (rdA b) c t (k + 1))) → (false = true ↔ OKK S (rdA b) (fun t => b (4 * t + 2)) (fun t => b (4 * t + 3)) T M c (k + 1)) ∧ (false = true → Q) := fun z => ⟨⟨fun y => (by cases y), fun y => absurd (y t q) z⟩, fun y => (by cases y)⟩
      by_cases g1 : depN S (rdA b) c t (k + 1) ≤ b (4 * t + 2)
      · have es54 : nI (b (4 * t + 2) - depN S (rdA b) c t k) - nI (rdP S (rdA b) k t * E) = nI (b (4 * t + 2) - depN S (rdA b) c t (k + 1)) := by
          rw [n_sub (by omega), ed]
          congr 1
          omega
        rw [es54] at r54 ⊢
        refine tp_if (n0le (by omega)) (tp_gd hibB (tp_gd hibB ?_))
        by_cases g2 : b (4 * t + 2) - depN S (rdA b) c t (k + 1) ≤ mcN S (rdA b) M t (k + 1)
        · refine tp_ifn (nnlt g2 (by omega)) (tp_gd hibT ?_)
          have yes : ∀ {α : Type} {Q : α → Wd → Prop}, ((∀ k', k + 1 ≤ k' → k' < 6 → rdP S (rdA b) k' t = 0) → b (4 * t + 3) = 255 ∨ nI (b (4 * t + 3)) = tpS S (rdA b) c t (k + 1)) → tp (lt (nI t + 1 : Int32) (fun v5_24 => (some (.inl v5_24, x3) : Option ((Int32 ⊕ α) × Wd)))) (lpQ (fun st x => t < T ∧ st = nI (t + 1) ∧ t + 1 ≤ T ∧ Kp (fun q => q = 54 ∨ q = 56) w x ∧ (∀ p, p < 8 * (k + 1) → wI x 54 p = wI w 54 p ∧ wI x 56 p = wI w 56 p) ∧ ∀ t', t' < t + 1 → (wI x 54 (8 * (k + 1) + t') = nI (b (4 * t' + 2) - depN S (rdA b) c t' (k + 1)) ∧ wI x 56 (8 * (k + 1) + t') = tpS S (rdA b) c t' (k + 1)) ∧ (depN S (rdA b) c t' (k + 1) ≤ b (4 * t' + 2) ∧ b (4 * t' + 2) - depN S (rdA b) c t' (k + 1) ≤ mcN S (rdA b) M t' (k + 1) ∧ ((∀ k', k + 1 ≤ k' → k' < 6 → rdP S (rdA b) k' t' = 0) → b (4 * t' + 3) = 255 ∨ nI (b (4 * t' + 3)) = tpS S (rdA b) c t' (k + 1)))) Q) := fun g3 => tp_lt (tp_on ⟨q, nI_s t, by omega, kx3, lo3, fun t' ht' => by
            rw [r3, r54]
            by_cases y : t' = t
            · rw [y, up_s, up_s]; exact ⟨⟨rfl, rfl⟩, g1, g2, g3⟩
            · rw [up_o (by omega), up_o (by omega)]; exact hdone t' (by omega)⟩)
          -- the last WAY over it
          have last : (wI w 51 t = nI k → ∀ k', k + 1 ≤ k' → k' < 6 → rdP S (rdA b) k' t = 0) ∧ (¬ wI w 51 t = nI k → (∀ k', k + 1 ≤ k' → k' < 6 → rdP S (rdA b) k' t = 0) → rdP S (rdA b) k t = 0) := by
            rcases zL with ⟨e, g⟩ | ⟨k0, g1, g2, e, g3, g4⟩
            · exact ⟨fun z => absurd (z.symm.trans e) (n_m1 (by omega)), fun _ _ => g k (by omega) (by omega)⟩
            · refine ⟨fun z k' h1 h2 => g4 k' (by have := (nI_eq (by omega) (by omega)).mp (e.symm.trans z); omega) h2, fun z y => ?_⟩
              by_cases y1 : k0 < k
              · exact g4 k y1 (by omega)
              · have : ¬ k0 = k := fun y2 => z (by rw [e, y2])
                have := y k0 (by omega) g2
                omega
          by_cases g3 : wI w 51 t = nI k
          · refine tp_if g3 (tp_gd hibT ?_)
            by_cases g4 : b (4 * t + 3) = 255
            · exact tp_if (by rw [g4]; rfl) (yes (fun _ => Or.inl g4))
            · refine tp_ifn (n_ne (b := 255) g4 (by omega) (by decide)) (tp_gd hibT (tp_gd hibB ?_))
              by_cases g5 : nI (b (4 * t + 3)) = tpS S (rdA b) c t (k + 1)
              · exact tp_if g5 (yes (fun _ => Or.inr g5))
              · exact tp_ifn g5 (tp_out ⟨kx3, lo3, no (fun z => (z.2.2 (last.1 g3)).elim g4 g5)⟩)
          · refine tp_ifn g3 (yes (fun z => ?_))
            have z0 := last.2 g3 z
            have := o3 (fun k' h1 h2 => by
              by_cases y : k' = k
              · rw [y]; exact z0
              · exact z k' (by omega) h2)
            rw [et, z0, if_pos rfl, ite_self]
            exact this
        · exact tp_if (nlt (by omega) (by omega)) (tp_out ⟨kx3, lo3, no (fun z => g2 z.2.1)⟩)
      · exact tp_ifn (n_sub_neg (by omega) (by omega)) (tp_out ⟨kx3, lo3, no (fun z => g1 z.1)⟩)
  · have : t = T := by omega
    subst this
    exact tp_ifn (nnlt (Nat.le_refl _) (by omega)) (tp_out ⟨kx, hlo, ⟨fun _ t' ht' => (hdone t' ht').2, fun _ => rfl⟩, fun _ t' ht' => (hdone t' ht').1⟩)
end XW
