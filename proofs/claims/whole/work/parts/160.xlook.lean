/-! READINGS: the class looks at the WAYS; whether there can be some -/
def LWT (S : Nat → Int32) (A : Nat → Nat) (t : Nat) (v : Int32) (k : Nat) : Prop := (v = -1 ∧ ∀ k', k ≤ k' → k' < 6 → rdP S A k' t = 0) ∨ ∃ k0, k ≤ k0 ∧ k0 < 6 ∧ v = nI k0 ∧ 0 < rdP S A k0 t ∧ ∀ k', k0 < k' → k' < 6 → rdP S A k' t = 0
def RDS (S : Nat → Int32) (b : Nat → Nat) (T M : Nat) (w : Wd) : Prop := wI w 48 1 = nI T ∧ (∀ t, t < T → wI w 49 t = nI (rdA b t) ∧ wI w 50 t = nI (b (4 * t + 3)) ∧ LWT S (rdA b) t (wI w 51 t) 0) ∧ (∀ k, k < 6 → wI w 53 k = bi (rfB S (rdA b) T k) ∧ ∀ t, t < T → wI w 52 (8 * k + t) = nI (rdP S (rdA b) k t)) ∧ ∀ k, k ≤ 6 → ∀ t, t < T → wI w 55 (8 * k + t) = nI (mcN S (rdA b) M t k)
section XL
variable {S : Nat → Int32} {w w' : Wd} {n T Y P M a t k : Nat} {b A c : Nat → Nat}
theorem x_110 (hF : WF S) (hR : HR S w a) (hP : S 2 = nI P) (hP6 : P ≤ 6) : ∃ M, M ≤ 9 ∧ (∀ p, p < P → ix (S (7 + p)) ≤ M) ∧ sh_110 a w = some (nI M, w) := by
  have key : tp (sh_110 a w) (fun r w' => ∃ M, M ≤ 9 ∧ (∀ p, p < P → ix (S (7 + p)) ≤ M) ∧ r = nI M ∧ w' = w) := by
    unfold sh_110
    refine tp_it (fun p st x => ∃ M, st = (nI M, nI p) ∧ p ≤ P ∧ M ≤ 9 ∧ (∀ p', p' < p → ix (S (7 + p')) ≤ M) ∧ x = w) P (by omega) ⟨0, rfl, Nat.zero_le _, by omega, fun p' h => by omega, rfl⟩ (fun p st x hI => ?_)
    obtain ⟨M, es, hp, hM, h, ex⟩ := hI
    rw [es, ex]
    show tp (if nI p < wI w a 3 then _ else _) _
    rw [hR.2.2.1, hP]
    by_cases q : p < P
    · obtain ⟨W, F, e1, e2, h1, h2, h3, h4⟩ := hF.wf (k := p) (by rw [hP, ix_nI (by omega)]; exact q)
      have ew : atK S 2 7 0 (nI p) = nI W := by
        unfold atK
        rw [isK_nI (by omega) hP (by omega), if_pos (decide_eq_true q), ix_nI (by omega), e1]
      refine tp_if (nlt q (by omega)) (tp_ce (x_weightOf hF hR (nI p)) ?_)
      rw [ew]
      refine tp_ce (x_max w (by omega) (by omega)) (tp_lt (tp_on ⟨q, max M W, by rw [nI_s], by omega, by omega, fun p' hp' => ?_, rfl⟩))
      by_cases z : p' = p
      · rw [z, e1, ix_nI (by omega)]; omega
      · have := h p' (by omega); omega
    · have : p = P := by omega
      subst this
      exact tp_ifn (nnlt (Nat.le_refl _) (by omega)) (tp_out ⟨M, hM, h, rfl, rfl⟩)
  obtain ⟨r, w', e, M, h1, h2, h3, h4⟩ := key
  exact ⟨M, h1, h2, by rw [e, h3, h4]⟩
theorem x_max1 (w : Wd) {b : Nat} (hb : b < 2147483648) : sh_85 (-1) (nI b) w = some (nI b, w) := by
  unfold sh_85
  by_cases q : nI b ≤ -1
  · have := (i_le _ _).mp q
    rw [i_nI hb] at this
    have h1 : (-1 : Int32).toInt = -1 := by decide
    omega
  · rw [if_neg q]
    rfl
theorem LWT.step (hk : k < 6) {v : Int32} (h : LWT S A t v (k + 1)) : (rdP S A k t = 0 → LWT S A t v k) ∧ (0 < rdP S A k t → ∃ v', sh_85 v (nI k) w = some (v', w) ∧ LWT S A t v' k) := by
  refine ⟨fun h0 => ?_, fun h0 => ?_⟩
  · rcases h with ⟨e, h⟩ | ⟨k0, h1, h2, h3, h4, h5⟩
    · refine Or.inl ⟨e, fun k' g1 g2 => ?_⟩
      by_cases z : k' = k
      · rw [z]; exact h0
      · exact h k' (by omega) g2
    · exact Or.inr ⟨k0, by omega, h2, h3, h4, h5⟩
  · rcases h with ⟨e, h⟩ | ⟨k0, h1, h2, h3, h4, h5⟩
    · exact ⟨nI k, by rw [e]; exact x_max1 w (by omega), Or.inr ⟨k, Nat.le_refl _, hk, rfl, h0, fun k' g1 g2 => h k' (by omega) g2⟩⟩
    · exact ⟨nI k0, by rw [h3, x_max w (by omega) (by omega), Nat.max_eq_left (by omega)], Or.inr ⟨k0, by omega, h2, rfl, h4, h5⟩⟩
/-- the WAYS are looked at from the last one back -/
theorem x_109 (hF : WF S) (hR : HR S w a) (ha : a = 7 ∨ a = 17) (hP : S 2 = nI P) (hP6 : P ≤ 6) (hT : T ≤ 8) (hD : RDT b T w) : tp (sh_109 48 a w) (fun _ w' => ∃ M, M ≤ 81 ∧ (∀ p, p < P → ix (S (7 + p)) * ix (S 6) ≤ M) ∧ RDS S b T M w' ∧ Kp (fun q => q = 51 ∨ q = 52 ∨ q = 53 ∨ q = 55) w w') := by
  obtain ⟨M0, hM0, hw0, e110⟩ := x_110 hF hR hP hP6
  obtain ⟨F, eF, hF1, hF9⟩ := hF.2.2.2.2.2.1
  unfold sh_109
  refine tp_ce e110 (tp_ce (x_fadeDays hR) (tp_lt ?_))
  rw [eF, nI_m]
  have hM : M0 * F ≤ 81 := Nat.mul_le_mul hM0 hF9
  have hw : ∀ p, p < P → ix (S (7 + p)) * ix (S 6) ≤ M0 * F := fun p hp => by rw [eF, ix_nI (by omega)]; exact Nat.mul_le_mul (hw0 p hp) (Nat.le_refl _)
  generalize M0 * F = M at hM hw
  obtain ⟨d1, dt⟩ := hD
  refine tp_it (fun t st x => st = nI t ∧ t ≤ 8 ∧ (∀ t', t' < t → wI x 51 t' = -1 ∧ wI x 55 (48 + t') = 0) ∧ Kp (fun q => q = 51 ∨ q = 55) w x) 8 (by omega) ⟨rfl, by omega, fun t' h => by omega, Kp.refl⟩ (fun t st x hI => ?_)
  obtain ⟨es, ht, h0, kx⟩ := hI
  rw [es]
  by_cases q : t < 8
  · rw [show (48 : Int32) + nI t = nI (48 + t) from nI_p 48 t, ix_nI (by omega), ix_nI (by omega)]
    refine tp_if (show nI t < nI 8 from nlt q (by omega)) (tp_gd (ib_nI q (by decide)) (tp_stG (fun x1 e1 k1 => tp_gd (ib_nI (by omega) (by decide)) (tp_stG (fun x2 e2 k2 => tp_lt (tp_on ⟨q, nI_s t, by omega, fun t' ht' => ?_, (kx.trans (k1.mono (fun q y => by omega))).trans (k2.mono (fun q y => by omega))⟩))))))
    rw [k2.I (by decide), show wI x1 51 = wI x1 (48 + 3) from rfl, e1, show wI x2 55 = wI x2 (48 + 7) from rfl, e2, k1.I (by decide)]
    by_cases z : t' = t
    · rw [z, up_s, up_s]; exact ⟨rfl, rfl⟩
    · rw [up_o z, up_o (by omega)]; exact h0 t' (by omega)
  · have : t = 8 := by omega
    subst this
    refine tp_ifn (by decide) ?_
    clear es q ht
    refine tp_it (fun i st y => i ≤ 6 ∧ st = nI (6 - i) - 1 ∧ (∀ k, 6 - i ≤ k → k < 6 → wI y 53 k = bi (rfB S (rdA b) T k) ∧ ∀ t, t < T → wI y 52 (8 * k + t) = nI (rdP S (rdA b) k t)) ∧ (∀ k, 6 - i ≤ k → k ≤ 6 → ∀ t, t < T → wI y 55 (8 * k + t) = nI (mcN S (rdA b) M t k)) ∧ (∀ t, t < T → LWT S (rdA b) t (wI y 51 t) (6 - i)) ∧ Kp (fun q => q = 51 ∨ q = 52 ∨ q = 53 ∨ q = 55) w y) 6 (by omega) ⟨by omega, rfl, fun k h1 h2 => by omega, fun k h1 h2 t ht => ?_, fun t ht => Or.inl ⟨(h0 t (by omega)).1, fun k' h1 h2 => by omega⟩, kx.mono (fun q y => by omega)⟩ (fun i st y hI => ?_)
    · rw [show k = 6 by omega, mcN_6, (h0 t (by omega)).2]; rfl
    · obtain ⟨hi, es, g1, g2, g3, ky⟩ := hI
      rw [es]
      by_cases q : i < 6
      · obtain ⟨k, ek⟩ : ∃ k, 6 - i = k + 1 := ⟨6 - i - 1, by omega⟩
        rw [ek] at g1 g2 g3 ⊢
        rw [nI_pred]
        have hib6 : ib (nI k) 6 = true := ib_nI (by omega) (by decide)
        refine tp_if (n0le (by omega)) (tp_gd hib6 (tp_stG (fun y1 f1 m1 => ?_)))
        rw [ix_nI (by omega)] at f1
        refine tp_it (fun t st z => st = nI t ∧ t ≤ T ∧ wI z 53 k = bi (decide (∀ t', t' < t → rdP S (rdA b) k t' = 0)) ∧ (∀ t', t' < t → wI z 52 (8 * k + t') = nI (rdP S (rdA b) k t') ∧ wI z 55 (8 * k + t') = nI (mcN S (rdA b) M t' k) ∧ LWT S (rdA b) t' (wI z 51 t') k) ∧ (∀ t', t ≤ t' → wI z 51 t' = wI y 51 t') ∧ (∀ k', ¬ k' = k → wI z 53 k' = wI y 53 k') ∧ (∀ p, 8 * (k + 1) ≤ p → wI z 52 p = wI y 52 p ∧ wI z 55 p = wI y 55 p) ∧ Kp (fun q => q = 51 ∨ q = 52 ∨ q = 53 ∨ q = 55) y z) T (by omega) ⟨rfl, Nat.zero_le _, ?_, fun t' h => by omega, fun t' _ => by rw [m1.I (by decide)], fun k' hk' => ?_, fun p hp => ⟨by rw [m1.I (by decide)], by rw [m1.I (by decide)]⟩, m1.mono (fun q y => by omega)⟩ (fun t st z hI => ?_)
        · rw [show wI y1 53 = wI y1 (48 + 5) from rfl, f1, up_s, decide_eq_true (fun t' h => by omega)]; rfl
        · rw [show wI y1 53 = wI y1 (48 + 5) from rfl, f1, up_o hk']
        · obtain ⟨es, ht, z53, zlow, z51, z53o, zhi, kz⟩ := hI
          have kwz : Kp (fun q => q = 51 ∨ q = 52 ∨ q = 53 ∨ q = 55) w z := ky.trans kz
          rw [es, show wI z 48 1 = nI T by rw [kwz.I (by decide)]; exact d1]
          by_cases qt : t < T
          · have hib8 : ib (nI t) 8 = true := ib_nI (by omega) (by decide)
            have l8 : nI k * 8 + nI t = nI (8 * k + t) := by rw [show nI k * 8 = nI (k * 8) from nI_m (b := 8), nI_p, Nat.mul_comm]
            refine tp_if (nlt qt (by omega)) (tp_if (show nI t < nI 8 from nlt (by omega) (by omega)) (tp_lt (tp_gd hib8 ?_)))
            have hRz : HR S z a := hR.kp kwz (fun q h1 h2 => by omega)
            rw [l8, show nI (8 * k + t) + 8 = nI (8 * k + t + 8) from nI_p _ 8, show wI z (48 + 1) (ix (nI t)) = nI (rdA b t) by rw [ix_nI (by omega), show wI z (48 + 1) = wI w 49 from kwz.I (by decide)]; exact (dt t qt).1]
            have hr := rdP_le (A := rdA b) hF k t
            have hm := mcN_le (A := rdA b) (t := t) hF hM (6 - (k + 1)) (k + 1) (by omega)
            refine tp_ce (show sh_111 a (nI k) (nI (rdA b t)) z = some (nI (rdP S (rdA b) k t), z) from x_passes hF hRz (by omega) _) (tp_gd (ib_nI (by omega) (by decide)) ?_)
            rw [ix_nI (show 8 * k + t < 2147483648 by omega), ix_nI (show 8 * k + t + 8 < 2147483648 by omega), ix_nI (show t < 2147483648 by omega), ix_nI (show k < 2147483648 by omega)]
            refine tp_stG (fun z1 p1 n1 => tp_gd (ib_nI (by omega) (by decide)) (tp_gd (ib_nI (by omega) (by decide)) (tp_gd (ib_nI (by omega) (by decide)) ?_)))
            have q52 : wI z1 (48 + 4) (8 * k + t) = nI (rdP S (rdA b) k t) := by rw [p1, up_s]
            have q55 : wI z1 (48 + 7) (8 * k + t + 8) = nI (mcN S (rdA b) M t (k + 1)) := by
              rw [n1.I (by decide), show wI z (48 + 7) = wI z 55 from rfl, show 8 * k + t + 8 = 8 * (k + 1) + t by omega, (zhi _ (by omega)).2]
              exact g2 (k + 1) (Nat.le_refl _) (by omega) t qt
            rw [q52, q55, nI_m, nI_p, ← mcN_s (show k < 6 by omega)]
            refine tp_stG (fun z2 p2 n2 => tp_gd (ib_nI (by omega) (by decide)) ?_)
            rw [show wI z2 (48 + 4) (8 * k + t) = nI (rdP S (rdA b) k t) by rw [n2.I (by decide)]; exact q52]
            have kz2 : Kp (fun q => q = 51 ∨ q = 52 ∨ q = 53 ∨ q = 55) y z2 := (kz.trans (n1.mono (fun q y => by omega))).trans (n2.mono (fun q y => by omega))
            have r52 : wI z2 52 = up (wI z 52) (8 * k + t) (nI (rdP S (rdA b) k t)) := by rw [n2.I (by decide)]; exact p1
            have r55 : wI z2 55 = up (wI z 55) (8 * k + t) (nI (mcN S (rdA b) M t k)) := by rw [show wI z2 55 = wI z2 (48 + 7) from rfl, p2, n1.I (by decide)]
            have r51 : wI z2 51 = wI z 51 := by rw [n2.I (by decide), n1.I (by decide)]
            have r53 : wI z2 53 = wI z 53 := by rw [n2.I (by decide), n1.I (by decide)]
            have zl := z51 t (Nat.le_refl _)
            have hL := g3 t qt
            rw [← zl] at hL
            have rows : ∀ t', t' < t + 1 → wI z2 52 (8 * k + t') = nI (rdP S (rdA b) k t') ∧ wI z2 55 (8 * k + t') = nI (mcN S (rdA b) M t' k) := fun t' ht' => by
              rw [r52, r55]
              by_cases y2 : t' = t
              · rw [y2, up_s, up_s]; exact ⟨rfl, rfl⟩
              · rw [up_o (by omega), up_o (by omega)]; exact ⟨(zlow t' (by omega)).1, (zlow t' (by omega)).2.1⟩
            have rhi : ∀ p, 8 * (k + 1) ≤ p → wI z2 52 p = wI y 52 p ∧ wI z2 55 p = wI y 55 p := fun p hp => by
              rw [r52, r55, up_o (by omega), up_o (by omega)]; exact zhi p hp
            by_cases q0 : rdP S (rdA b) k t = 0
            · refine tp_ifn (by rw [q0]; decide) (tp_lt (tp_on ⟨qt, nI_s t, by omega, ?_, fun t' ht' => ⟨(rows t' ht').1, (rows t' ht').2, ?_⟩, fun t' ht' => by rw [r51]; exact z51 t' (by omega), fun k' hk' => by rw [r53]; exact z53o k' hk', rhi, kz2⟩))
              · rw [r53, z53]
                refine congrArg bi (decide_eq_decide.mpr ⟨fun h t' ht' => ?_, fun h t' ht' => h t' (by omega)⟩)
                by_cases y2 : t' = t
                · rw [y2]; exact q0
                · exact h t' (by omega)
              · rw [r51]
                by_cases y2 : t' = t
                · rw [y2]; exact (hL.step (w := z) (by omega)).1 q0
                · exact (zlow t' (by omega)).2.2
            · refine tp_if (jp (by omega) (by omega)) (tp_gd hib6 (tp_stG (fun z3 p3 n3 => tp_gd hib8 ?_)))
              obtain ⟨v', e85, hL'⟩ := (hL.step (w := z3) (by omega)).2 (by omega)
              rw [show wI z3 (48 + 3) t = wI z 51 t by rw [n3.I (by decide)]; exact congrFun r51 t]
              refine tp_ce e85 (tp_gd hib8 (tp_stG (fun z4 p4 n4 => tp_lt (tp_on ⟨qt, nI_s t, by omega, ?_, fun t' ht' => ⟨?_, ?_, ?_⟩, fun t' ht' => ?_, fun k' hk' => ?_, fun p hp => ?_, (kz2.trans (n3.mono (fun q y => by omega))).trans (n4.mono (fun q y => by omega))⟩))))
              · rw [n4.I (by decide), show wI z3 53 = wI z3 (48 + 5) from rfl, p3, up_s, decide_eq_false (fun h => q0 (h t (by omega)))]
                rfl
              · rw [n4.I (by decide), n3.I (by decide)]; exact (rows t' ht').1
              · rw [n4.I (by decide), n3.I (by decide)]; exact (rows t' ht').2
              · rw [show wI z4 51 = wI z4 (48 + 3) from rfl, p4]
                by_cases y2 : t' = t
                · rw [y2, up_s]; exact hL'
                · rw [up_o y2, n3.I (by decide), show wI z2 (48 + 3) = wI z 51 from r51]; exact (zlow t' (by omega)).2.2
              · rw [show wI z4 51 = wI z4 (48 + 3) from rfl, p4, up_o (by omega), n3.I (by decide), show wI z2 (48 + 3) = wI z 51 from r51]
                exact z51 t' (by omega)
              · rw [n4.I (by decide), show wI z3 53 = wI z3 (48 + 5) from rfl, p3, up_o hk', show wI z2 (48 + 5) = wI z 53 from r53]
                exact z53o k' hk'
              · rw [n4.I (by decide), n3.I (by decide), n4.I (by decide), n3.I (by decide)]; exact rhi p hp
          · have : t = T := by omega
            subst this
            refine tp_ifn (nnlt (Nat.le_refl _) (by omega)) (tp_lt (tp_oin ⟨q, by omega, ?_, fun k' h1 h2 => ?_, fun k' h1 h2 t' ht' => ?_, fun t' ht' => ?_, kwz⟩))
            · rw [show 6 - (i + 1) = k by omega]
              exact (Int32.sub_eq_add_neg (nI k) 1).symm
            · by_cases y2 : k' = k
              · rw [y2]
                exact ⟨z53, fun t' ht' => (zlow t' ht').1⟩
              · rw [z53o k' y2]
                refine ⟨(g1 k' (by omega) h2).1, fun t' ht' => ?_⟩
                rw [(zhi _ (by omega)).1]
                exact (g1 k' (by omega) h2).2 t' ht'
            · by_cases y2 : k' = k
              · rw [y2]; exact (zlow t' ht').2.1
              · rw [(zhi _ (by omega)).2]
                exact g2 k' (by omega) h2 t' ht'
            · rw [show 6 - (i + 1) = k by omega]
              exact (zlow t' ht').2.2
      · have : i = 6 := by omega
        subst this
        refine tp_ifn (by decide) (tp_oout ⟨M, hM, fun p hp => by rw [← eF]; exact hw p hp, ⟨by rw [ky.I (by decide)]; exact d1, fun t ht => ⟨by rw [ky.I (by decide)]; exact (dt t ht).1, by rw [ky.I (by decide)]; exact (dt t ht).2.1, g3 t ht⟩, fun k hk => g1 k (by omega) hk, fun k hk t ht => g2 k (by omega) hk t ht⟩, ky⟩)
/-- whether there can be READINGS -/
theorem x_112 (hF : WF S) (hT : T ≤ 8) (hM : M ≤ 81) (h : RDS S b T M w) (hb : ∀ p, p < 4 * T → b p < 256) (h54 : ∀ t, t < T → wI w 54 t = nI (b (4 * t + 2))) (c : Nat → Nat) : tp (sh_112 48 w) (fun r w' => w' = w ∧ (r = true ↔ OKK S (rdA b) (fun t => b (4 * t + 2)) (fun t => b (4 * t + 3)) T M c 0)) := by
  obtain ⟨h1, ht, hk, hc⟩ := h
  unfold sh_112
  have one : ∀ t, t < T → ((depN S (rdA b) c t 0 ≤ b (4 * t + 2) ∧ b (4 * t + 2) - depN S (rdA b) c t 0 ≤ mcN S (rdA b) M t 0 ∧ ((∀ k', 0 ≤ k' → k' < 6 → rdP S (rdA b) k' t = 0) → b (4 * t + 3) = 255 ∨ nI (b (4 * t + 3)) = tpS S (rdA b) c t 0)) ↔ (b (4 * t + 2) ≤ mcN S (rdA b) M t 0 ∧ (wI w 51 t = -1 → b (4 * t + 3) = 255))) := fun t htt => by
    have b3 := hb (4 * t + 3) (by omega)
    have hL := (ht t htt).2.2
    show (0 ≤ _ ∧ b (4 * t + 2) - 0 ≤ _ ∧ _) ↔ _
    rw [Nat.sub_zero]
    refine ⟨fun ⟨_, g1, g2⟩ => ⟨g1, fun z => ?_⟩, fun ⟨g1, g2⟩ => ⟨Nat.zero_le _, g1, fun z => ?_⟩⟩
    · rcases hL with ⟨_, g⟩ | ⟨k0, _, k6, g, _⟩
      · rcases g2 g with y | y
        · exact y
        · exact absurd y (n_m1 (by omega))
      · rw [g] at z; exact absurd z (n_m1 (by omega))
    · rcases hL with ⟨g, _⟩ | ⟨k0, _, k6, _, g, _⟩
      · exact Or.inl (g2 g)
      · have := z k0 (Nat.zero_le _) k6
        omega
  refine tp_it (fun t st x => st = nI t ∧ t ≤ T ∧ x = w ∧ ∀ t', t' < t → (b (4 * t' + 2) ≤ mcN S (rdA b) M t' 0 ∧ (wI w 51 t' = -1 → b (4 * t' + 3) = 255))) T (by omega) ⟨rfl, Nat.zero_le _, rfl, fun t' h => by omega⟩ (fun t st x hI => ?_)
  obtain ⟨es, htt, ex, hl⟩ := hI
  rw [es, ex, h1]
  by_cases q : t < T
  · have hib8 : ib (nI t) 8 = true := ib_nI (by omega) (by decide)
    have hib56 : ib (nI t) 56 = true := ib_nI (by omega) (by decide)
    have b2 := hb (4 * t + 2) (by omega)
    have b3 := hb (4 * t + 3) (by omega)
    have hm := mcN_le (A := rdA b) (t := t) hF hM 6 0 (by omega)
    have no : ¬ (b (4 * t + 2) ≤ mcN S (rdA b) M t 0 ∧ (wI w 51 t = -1 → b (4 * t + 3) = 255)) → (false = true ↔ OKK S (rdA b) (fun t => b (4 * t + 2)) (fun t => b (4 * t + 3)) T M c 0) := fun z => ⟨fun y => (by cases y), fun y => absurd ((one t q).mp (y t q)) z⟩
    have h55 := hc 0 (by omega) t q
    rw [Nat.mul_zero, Nat.zero_add] at h55
    have yes : ∀ {α : Type} {Q : α → Wd → Prop}, (b (4 * t + 2) ≤ mcN S (rdA b) M t 0 ∧ (wI w 51 t = -1 → b (4 * t + 3) = 255)) → tp (lt (nI t + 1 : Int32) (fun v1_9 => (some (.inl v1_9, w) : Option ((Int32 ⊕ α) × Wd)))) (lpQ (fun s' w' => t < T ∧ s' = nI (t + 1) ∧ t + 1 ≤ T ∧ w' = w ∧ ∀ t', t' < t + 1 → (b (4 * t' + 2) ≤ mcN S (rdA b) M t' 0 ∧ (wI w 51 t' = -1 → b (4 * t' + 3) = 255))) Q) := fun g => tp_lt (tp_on ⟨q, nI_s t, by omega, rfl, fun t' ht' => by
      by_cases z : t' = t
      · rw [z]; exact g
      · exact hl t' (by omega)⟩)
    rw [ix_nI (by omega), show wI w (48 + 6) t = nI (b (4 * t + 2)) from h54 t q, show wI w (48 + 7) t = nI (mcN S (rdA b) M t 0) from h55, show wI w (48 + 2) t = nI (b (4 * t + 3)) from (ht t q).2.1]
    refine tp_if (nlt q (by omega)) (tp_if (show nI t < nI 8 from nlt (by omega) (by omega)) (tp_gd hib56 (tp_gd hib56 ?_)))
    by_cases q1 : b (4 * t + 2) ≤ mcN S (rdA b) M t 0
    · refine tp_if (nle q1 (by omega)) (tp_gd hib8 ?_)
      by_cases q2 : wI w (48 + 3) t = -1
      · refine tp_if q2 (tp_gd hib8 ?_)
        by_cases q3 : b (4 * t + 3) = 255
        · exact tp_if (by rw [q3]; rfl) (yes ⟨q1, fun _ => q3⟩)
        · exact tp_ifn (n_ne (b := 255) q3 (by omega) (by decide)) (tp_out ⟨rfl, no (fun z => q3 (z.2 q2))⟩)
      · exact tp_ifn q2 (yes ⟨q1, fun z => absurd z q2⟩)
    · exact tp_ifn (nnle (by omega) (by omega)) (tp_out ⟨rfl, no (fun z => q1 z.1)⟩)
  · have : t = T := by omega
    subst this
    refine tp_ifn (nnlt (Nat.le_refl _) (by omega)) (tp_out ⟨rfl, ⟨fun _ t' ht' => (one t' ht').mpr (hl t' ht'), fun _ => rfl⟩⟩)
end XL
