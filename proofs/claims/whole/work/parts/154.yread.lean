/-! READINGS: the reference looks at one, goes on to the next -/
section YR
variable {S : Nat → Int32} {w w' : Wd} {n T Y P B e : Nat} {b c A : Nat → Nat}
theorem rdP_le (hF : WF S) (k t : Nat) : rdP S A k t ≤ 41 := by
  have h1 := cntN_le (fun i => decide (S (183 + 41 * k + i) = nI (A t))) (lenN S k)
  have h2 := lenN_le hF k
  show cntN (fun i => decide (S (183 + 41 * k + i) = nI (A t))) (lenN S k) ≤ 41
  omega
theorem rdC_le (hF : WF S) {t k : Nat} (hc : c k ≤ ix (S 2)) : rdC S A c t k ≤ 3321 := by
  unfold rdC
  by_cases q : c k = 0
  · rw [if_pos q]; omega
  · rw [if_neg q]
    obtain ⟨W, F, e1, e2, h1, h2, h3, h4⟩ := hF.wf (k := c k - 1) (by omega)
    rw [e1, e2, ix_nI (by omega), ix_nI (by omega)]
    have := rdP_le (A := A) hF k t
    calc rdP S A k t * (W * F) ≤ 41 * (9 * 9) := Nat.mul_le_mul this (Nat.mul_le_mul h2 h4)
      _ = 3321 := rfl
theorem depN_le (hF : WF S) {t : Nat} : ∀ k, (∀ j, j < k → c j ≤ ix (S 2)) → depN S A c t k ≤ 3321 * k := by
  intro k
  induction k with
  | zero => intro _; exact Nat.le_refl _
  | succ k ih =>
    intro h
    have h1 := ih (fun j hj => h j (by omega))
    have h2 := rdC_le (A := A) (t := t) hF (h k (by omega))
    show depN S A c t k + rdC S A c t k ≤ _
    omega
theorem y_octet {p : Nat} (hp : p < 940) (h : wI w 167 p &&& 255 = nI (b p)) : sh_242 166 (nI p) w = some (nI (b p), w) := by
  unfold sh_242
  rw [gd_nI hp (by decide), ix_nI (by omega), show wI w (166 + 1) p &&& 255 = nI (b p) from h]
theorem y_isRd (hF : WF S) (hS : wI w 168 = S) (hY : S 3 = nI Y) (hY6 : Y ≤ 6) (hP : S 2 = nI P) (hP6 : P ≤ 6) (hT : T ≤ 8) (hc : ∀ k, k < Y → wI w 175 k = nI (c k) ∧ c k ≤ P) (htr : ∀ t, t < T → ∀ k, k < 6 → wI w 174 (6 * t + k) = nI (rdP S A k t)) (hb : ∀ p, p < 4 * T → wI w 167 p &&& 255 = nI (b p) ∧ b p < 256) : sh_243 166 (nI T) w = some (fitB S A (fun t => b (4 * t + 2)) (fun t => b (4 * t + 3)) T Y c, w) := by
  refine tp_q ?_
  unfold sh_243
  refine tp_it (fun t st w' => st = nI t ∧ w' = w ∧ t ≤ T ∧ ∀ t', t' < t → depN S A c t' Y = b (4 * t' + 2) ∧ (b (4 * t' + 3) = 255 ∨ nI (b (4 * t' + 3)) = tpS S A c t' Y)) T (by omega) ⟨rfl, rfl, Nat.zero_le _, fun t' h => by omega⟩ (fun t st w' hI => ?_)
  obtain ⟨es, ew, ht, hfit⟩ := hI
  rw [es, ew]
  by_cases q : t < T
  · refine tp_if (nlt q (by omega)) ?_
    refine tp_it (fun k st w' => st = (nI (depN S A c t k), tpS S A c t k, nI k) ∧ w' = w ∧ k ≤ Y) Y (by omega) ⟨rfl, rfl, Nat.zero_le _⟩ (fun k st w' hI => ?_)
    obtain ⟨es, ew, hk⟩ := hI
    rw [es, ew]
    show tp (gd (ib 3 10265) _) _
    have e3 : wI w (166 + 2) (ix 3) = nI Y := by rw [show wI w (166 + 2) = S from hS]; exact hY
    rw [e3]
    refine tp_gd (by decide) ?_
    by_cases qk : k < Y
    · obtain ⟨e9, hck⟩ := hc k qk
      have e8 := htr t q k (by omega)
      have hib6 : ib (nI k) 6 = true := ib_nI (by omega) (by decide)
      have hib48 : ib (6 * nI t + nI k) 48 = true := by rw [show (6 : Int32) * nI t = nI (6 * t) from nI_m (a := 6), nI_p]; exact ib_nI (by omega) (by decide)
      have e9' : wI w (166 + 9) (ix (nI k)) = nI (c k) := by rw [ix_nI (by omega)]; exact e9
      have e8' : wI w (166 + 8) (ix (6 * nI t + nI k)) = nI (rdP S A k t) := by rw [show (6 : Int32) * nI t = nI (6 * t) from nI_m (a := 6), nI_p, ix_nI (by omega)]; exact e8
      have hr := rdP_le (A := A) hF k t
      refine tp_if (nlt qk (by omega)) (tp_gd hib6 ?_)
      rw [e9', e8']
      by_cases q0 : c k = 0
      · refine tp_if (by rw [q0]; rfl) (tp_lt (tp_on ⟨qk, ?_, rfl, by omega⟩))
        rw [nI_s]
        show _ = (nI (depN S A c t k + rdC S A c t k), (if c k = 0 then tpS S A c t k else if rdP S A k t = 0 then tpS S A c t k else S (13 + (c k - 1))), nI (k + 1))
        rw [if_pos q0]
        unfold rdC
        rw [if_pos q0]
        rfl
      · refine tp_ifn (show ¬ nI (c k) = 0 from n_ne (b := 0) q0 (by omega) (by decide)) (tp_gd hib48 ?_)
        by_cases qr : rdP S A k t = 0
        · refine tp_if (by rw [qr]; rfl) (tp_lt (tp_on ⟨qk, ?_, rfl, by omega⟩))
          rw [nI_s]
          show _ = (nI (depN S A c t k + rdC S A c t k), (if c k = 0 then tpS S A c t k else if rdP S A k t = 0 then tpS S A c t k else S (13 + (c k - 1))), nI (k + 1))
          rw [if_neg q0, if_pos qr]
          unfold rdC
          rw [qr, Nat.zero_mul, ite_self]
          rfl
        · obtain ⟨W, F, e1, e2, h1, h2, h3, h4⟩ := hF.wf (k := c k - 1) (by rw [hP, ix_nI (by omega)]; omega)
          have ea : (7 : Int32) + nI (c k) - 1 = nI (7 + (c k - 1)) := by rw [show (7 : Int32) + nI (c k) = nI (7 + c k) from nI_p 7 _, show nI (7 + c k) - 1 = nI (7 + c k - 1) from n_sub (y := 1) (by omega), show 7 + c k - 1 = 7 + (c k - 1) by omega]
          have eb : (13 : Int32) + nI (c k) - 1 = nI (13 + (c k - 1)) := by rw [show (13 : Int32) + nI (c k) = nI (13 + c k) from nI_p 13 _, show nI (13 + c k) - 1 = nI (13 + c k - 1) from n_sub (y := 1) (by omega), show 13 + c k - 1 = 13 + (c k - 1) by omega]
          rw [ea, eb, ix_nI (show 7 + (c k - 1) < 2147483648 by omega), ix_nI (show 13 + (c k - 1) < 2147483648 by omega), show wI w (166 + 2) = S from hS, e1, show S (ix 6) = nI F from e2]
          refine tp_ifn (show ¬ nI (rdP S A k t) = 0 from n_ne (b := 0) qr (by omega) (by decide)) (tp_gd hib48 (tp_gd hib6 (tp_gd (ib_nI (by omega) (by decide)) (tp_gd (by decide) (tp_lt (tp_gd hib6 (tp_gd (ib_nI (by omega) (by decide)) (tp_lt (tp_lt (tp_on ⟨qk, ?_, rfl, by omega⟩))))))))))
          rw [nI_s, nI_m, nI_m, nI_p]
          show _ = (nI (depN S A c t k + rdC S A c t k), (if c k = 0 then tpS S A c t k else if rdP S A k t = 0 then tpS S A c t k else S (13 + (c k - 1))), nI (k + 1))
          rw [if_neg q0, if_neg qr]
          unfold rdC
          rw [if_neg q0, e1, e2, ix_nI (by omega), ix_nI (by omega), Nat.mul_assoc]
    · have : k = Y := by omega
      subst this
      have hd := depN_le (A := A) (t := t) hF k (fun j hj => by rw [hP, ix_nI (by omega)]; exact (hc j hj).2)
      have b2 := hb (4 * t + 2) (by omega)
      have b3 := hb (4 * t + 3) (by omega)
      have l42 : (4 : Int32) * nI t + 2 = nI (4 * t + 2) := by rw [show (4 : Int32) * nI t = nI (4 * t) from nI_m (a := 4)]; exact nI_p _ 2
      have l43 : (4 : Int32) * nI t + 3 = nI (4 * t + 3) := by rw [show (4 : Int32) * nI t = nI (4 * t) from nI_m (a := 4)]; exact nI_p _ 3
      refine tp_ifn (nnlt (Nat.le_refl _) (by omega)) ?_
      rw [l42, l43]
      refine tp_ce (y_octet (by omega) b2.1) ?_
      have no : ¬ (depN S A c t k = b (4 * t + 2) ∧ (b (4 * t + 3) = 255 ∨ nI (b (4 * t + 3)) = tpS S A c t k)) → fitB S A (fun t => b (4 * t + 2)) (fun t => b (4 * t + 3)) T k c = false := fun z => decide_eq_false (fun y => z (y t q))
      by_cases q1 : depN S A c t k = b (4 * t + 2)
      · refine tp_if (by rw [q1]) (tp_ce (y_octet (by omega) b3.1) ?_)
        by_cases q2 : b (4 * t + 3) = 255
        · refine tp_if (by rw [q2]; rfl) (tp_lt (tp_oin ⟨q, nI_s t, rfl, by omega, fun t' ht' => ?_⟩))
          by_cases y : t' = t
          · rw [y]; exact ⟨q1, Or.inl q2⟩
          · exact hfit t' (by omega)
        · refine tp_ifn (n_ne (b := 255) q2 (by omega) (by decide)) (tp_ce (y_octet (by omega) b3.1) ?_)
          by_cases q3 : nI (b (4 * t + 3)) = tpS S A c t k
          · refine tp_if q3 (tp_lt (tp_oin ⟨q, nI_s t, rfl, by omega, fun t' ht' => ?_⟩))
            by_cases y : t' = t
            · rw [y]; exact ⟨q1, Or.inr q3⟩
            · exact hfit t' (by omega)
          · exact tp_ifn q3 (tp_oout ⟨(no (fun z => z.2.elim q2 q3)).symm, rfl⟩)
      · exact tp_ifn (fun z => q1 ((nI_eq (by omega) (by omega)).mp z)) (tp_oout ⟨(no (fun z => q1 z.1)).symm, rfl⟩)
  · have : t = T := by omega
    subst this
    exact tp_ifn (nnlt (Nat.le_refl _) (by omega)) (tp_out ⟨(decide_eq_true hfit).symm, rfl⟩)
/-- the next one -/
theorem y_nextRd (hS : wI w 168 = S) (hY : S 3 = nI Y) (hY6 : Y ≤ 6) (hP : S 2 = nI P) (hP6 : P ≤ 6) (hB : B = P + 1) (he : e < B ^ Y) (hc : ∀ k, k < Y → wI w 175 k = nI (dg B Y e k)) : tp (sh_245 166 w) (fun r w' => Kp (fun q => q = 175) w w' ∧ ((r = true ∧ e + 1 < B ^ Y ∧ ∀ k, k < Y → wI w' 175 k = nI (dg B Y (e + 1) k)) ∨ (r = false ∧ e + 1 = B ^ Y))) := by
  have hB0 : 0 < B := by omega
  unfold sh_245
  refine tp_gd (by decide) (tp_lt ?_)
  rw [show wI w (166 + 2) (ix 3) = nI Y by rw [show wI w (166 + 2) = S from hS]; exact hY]
  refine tp_it (fun t st w' => t ≤ Y ∧ st = nI (Y - t) - 1 ∧ (∀ k, k < Y - t → wI w' 175 k = nI (dg B Y e k)) ∧ (∀ k, Y - t ≤ k → k < Y → wI w' 175 k = 0) ∧ e + 1 = (e / B ^ t + 1) * B ^ t ∧ Kp (fun q => q = 175) w w') Y (by omega) ⟨Nat.zero_le _, rfl, fun k hk => hc k hk, fun k h1 h2 => by omega, ?_, Kp.refl⟩ (fun t st w' hI => ?_)
  · rw [Nat.pow_zero, Nat.div_one, Nat.mul_one]
  · obtain ⟨ht, es, h1, h2, h3, hk⟩ := hI
    rw [es]
    by_cases q : t < Y
    · obtain ⟨j, ej⟩ : ∃ j, Y - t = j + 1 := ⟨Y - t - 1, by omega⟩
      rw [ej] at h1 h2 ⊢
      rw [nI_pred]
      have hib : ib (nI j) 6 = true := ib_nI (by omega) (by decide)
      have eY : Y = j + 1 + t := by omega
      have hdg : dg B Y e j = e / B ^ t % B := by rw [eY, dg_pre (by omega), dg_last]
      have hlt : dg B Y e j < B := dg_lt hB0 _ _ _
      refine tp_if (n0le (by omega)) (tp_gd hib (tp_gd (by decide) ?_))
      rw [ix_nI (by omega), show wI w' (166 + 9) j = nI (dg B Y e j) from h1 j (by omega), show wI w' (166 + 2) (ix 2) = nI P by rw [show wI w' (166 + 2) = wI w 168 from hk.I (by decide), hS]; exact hP]
      by_cases q2 : dg B Y e j < P
      · refine tp_if (nlt q2 (by omega)) (tp_gd hib (tp_gd hib (tp_stG (fun w2 e2 k2 => tp_out ⟨hk.trans k2, Or.inl ⟨rfl, ?_, fun k hk' => ?_⟩⟩))))
        · obtain ⟨c1, c2, c3⟩ := dg_carry (k := j) hB0 h3 (by omega)
          rw [← eY] at c2
          have : ¬ e + 1 = B ^ Y := fun z => by
            rw [z] at c2
            have := dg_low (B := B) (k := 0) hB0 Y 1 j (by omega) (by omega)
            rw [Nat.zero_add, Nat.one_mul] at this
            omega
          omega
        · obtain ⟨c1, c2, c3⟩ := dg_carry (k := j) hB0 h3 (by omega)
          rw [← eY] at c1 c2 c3
          rw [nI_s] at e2
          rw [show wI w2 175 = wI w2 (166 + 9) from rfl, e2]
          by_cases y : k = j
          · rw [y, up_s, c2]
          · rw [up_o y]
            by_cases y2 : k < j
            · rw [show wI w' (166 + 9) k = nI (dg B Y e k) from h1 k (by omega), c1 k y2]
            · rw [show wI w' (166 + 9) k = 0 from h2 k (by omega) hk', c3 k (by omega) (by omega)]
              rfl
      · have eP : dg B Y e j + 1 = B := by omega
        refine tp_ifn (nnlt (by omega) (by omega)) (tp_gd hib (tp_stG (fun w2 e2 k2 => tp_lt (tp_on ⟨q, by omega, ?_, fun k hk' => ?_, fun k h4 h5 => ?_, dg_carry2 h3 (by omega), hk.trans k2⟩))))
        · rw [show Y - (t + 1) = j by omega]
          exact (Int32.sub_eq_add_neg (nI j) 1).symm
        · rw [show wI w2 175 = wI w2 (166 + 9) from rfl, e2, up_o (by omega)]
          exact h1 k (by omega)
        · rw [show wI w2 175 = wI w2 (166 + 9) from rfl, e2]
          by_cases y : k = j
          · rw [y, up_s]
          · rw [up_o y]; exact h2 k (by omega) h5
    · have : t = Y := by omega
      subst this
      rw [show t - t = 0 by omega]
      refine tp_ifn (by decide) (tp_out ⟨hk, Or.inr ⟨rfl, ?_⟩⟩)
      rw [Nat.div_eq_of_lt he] at h3
      omega
end YR
