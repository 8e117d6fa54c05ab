/-! READINGS: what the class keeps; it takes what is told -/
def F48 (P : Nat → Prop) (w w' : Wd) : Prop := ∀ j, ¬ P j → wI w' 48 j = wI w 48 j
def rkP (q : Nat) : Prop := 48 ≤ q ∧ q ≤ 57
/-- what the WAYS from k on can bring at most -/
def mcN (S : Nat → Int32) (A : Nat → Nat) (M t k : Nat) : Nat := smN (fun w => rdP S A w t * M) 6 - smN (fun w => rdP S A w t * M) k
/-- a beginning can be gone on with -/
def OKK (S : Nat → Int32) (A D Z : Nat → Nat) (T M : Nat) (c : Nat → Nat) (k : Nat) : Prop := ∀ t, t < T → depN S A c t k ≤ D t ∧ D t - depN S A c t k ≤ mcN S A M t k ∧ ((∀ k', k ≤ k' → k' < 6 → rdP S A k' t = 0) → Z t = 255 ∨ nI (Z t) = tpS S A c t k)
section OK
variable {S : Nat → Int32} {A D Z c c' : Nat → Nat} {T M Y P t k : Nat}
theorem smN_le (g : Nat → Nat) {a b : Nat} (h : a ≤ b) : smN g a ≤ smN g b := by
  obtain ⟨m, rfl⟩ : ∃ m, b = a + m := ⟨b - a, by omega⟩
  clear h
  induction m with
  | zero => exact Nat.le_refl _
  | succ m ih => exact Nat.le_trans ih (Nat.le_add_right _ _)
theorem mcN_s (hk : k < 6) : mcN S A M t k = mcN S A M t (k + 1) + rdP S A k t * M := by
  unfold mcN
  have h1 : smN (fun w => rdP S A w t * M) (k + 1) = smN (fun w => rdP S A w t * M) k + rdP S A k t * M := rfl
  have h2 := smN_le (fun w => rdP S A w t * M) (show k + 1 ≤ 6 by omega)
  omega
theorem mcN_6 : mcN S A M t 6 = 0 := Nat.sub_self _
theorem mcN_0 : ∀ d k, k + d = 6 → (∀ k', k ≤ k' → k' < 6 → rdP S A k' t = 0) → mcN S A M t k = 0 := by
  intro d
  induction d with
  | zero => intro k hk _; rw [show k = 6 by omega]; exact mcN_6
  | succ d ih =>
    intro k hk h
    rw [mcN_s (by omega), ih (k + 1) (by omega) (fun k' h1 h2 => h k' (by omega) h2), h k (Nat.le_refl _) (by omega), Nat.zero_mul]
theorem rdP_0 (hY : S 3 = nI Y) (hY6 : Y ≤ 6) (hk : Y ≤ k) : rdP S A k t = 0 := by
  show cntN _ (lenN S k) = 0
  have : lenN S k = 0 := if_neg (by rw [hY, ix_nI (by omega)]; omega)
  rw [this]
  rfl
theorem mcN_le (hF : WF S) (hM : M ≤ 81) : ∀ d k, k + d = 6 → mcN S A M t k ≤ 3321 * d := by
  intro d
  induction d with
  | zero => intro k hk; rw [show k = 6 by omega, mcN_6]; exact Nat.zero_le _
  | succ d ih =>
    intro k hk
    rw [mcN_s (by omega)]
    have h1 := ih (k + 1) (by omega)
    have h2 : rdP S A k t * M ≤ 41 * 81 := Nat.mul_le_mul (rdP_le hF k t) hM
    omega
theorem rdC_M (hw : ∀ p, p < P → ix (S (7 + p)) * ix (S 6) ≤ M) (hc : c k ≤ P) : rdC S A c t k ≤ rdP S A k t * M := by
  unfold rdC
  by_cases q : c k = 0
  · rw [if_pos q]; exact Nat.zero_le _
  · rw [if_neg q]; exact Nat.mul_le_mul (Nat.le_refl _) (hw _ (by omega))
theorem depN_mono {a b : Nat} (h : a ≤ b) : depN S A c t a ≤ depN S A c t b := by
  obtain ⟨m, rfl⟩ : ∃ m, b = a + m := ⟨b - a, by omega⟩
  clear h
  induction m with
  | zero => exact Nat.le_refl _
  | succ m ih => exact Nat.le_trans ih (Nat.le_add_right _ _)
theorem depN_mc (hw : ∀ p, p < P → ix (S (7 + p)) * ix (S 6) ≤ M) (hY6 : Y ≤ 6) (hc : ∀ k, k < Y → c k ≤ P) : ∀ d k, k + d = Y → depN S A c t Y ≤ depN S A c t k + mcN S A M t k := by
  intro d
  induction d with
  | zero => intro k hk; rw [show k = Y by omega]; exact Nat.le_add_right _ _
  | succ d ih =>
    intro k hk
    have h1 := ih (k + 1) (by omega)
    have h2 : depN S A c t (k + 1) = depN S A c t k + rdC S A c t k := rfl
    have h3 := rdC_M (A := A) (t := t) hw (hc k (by omega))
    rw [mcN_s (by omega)]
    omega
theorem tpS_same : ∀ d k, (∀ k', k ≤ k' → k' < k + d → rdP S A k' t = 0) → tpS S A c t (k + d) = tpS S A c t k := by
  intro d
  induction d with
  | zero => intro k _; rfl
  | succ d ih =>
    intro k h
    show (if c (k + d) = 0 then tpS S A c t (k + d) else if rdP S A (k + d) t = 0 then tpS S A c t (k + d) else S (13 + (c (k + d) - 1))) = _
    rw [if_pos (h (k + d) (by omega) (by omega)), ite_self]
    exact ih k (fun k' h1 h2 => h k' h1 (by omega))
/-- what fits goes on at each WAY -/
theorem ok_fit (hw : ∀ p, p < P → ix (S (7 + p)) * ix (S 6) ≤ M) (hY6 : Y ≤ 6) (hc : ∀ k, k < Y → c k ≤ P) (hk : k ≤ Y) (h : fitB S A D Z T Y c = true) : OKK S A D Z T M c k := fun t ht => by
  obtain ⟨h1, h2⟩ := (decide_eq_true_eq.mp h) t ht
  have m1 := depN_mono (S := S) (A := A) (c := c) (t := t) hk
  have m2 := depN_mc (A := A) (t := t) hw hY6 hc (Y - k) k (by omega)
  refine ⟨by omega, by omega, fun z => ?_⟩
  have := tpS_same (S := S) (A := A) (c := c) (t := t) (Y - k) k (fun k' h3 h4 => z k' h3 (by omega))
  rw [show k + (Y - k) = Y by omega] at this
  rw [← this]; exact h2
theorem fit_ok (hY : S 3 = nI Y) (hY6 : Y ≤ 6) (h : OKK S A D Z T M c Y) : fitB S A D Z T Y c = true := decide_eq_true (fun t ht => by
  obtain ⟨h1, h2, h3⟩ := h t ht
  have h0 : ∀ k', Y ≤ k' → k' < 6 → rdP S A k' t = 0 := fun k' hk _ => rdP_0 hY hY6 hk
  rw [mcN_0 (6 - Y) Y (by omega) h0] at h2
  exact ⟨by omega, h3 h0⟩)
theorem OKK_c (h : OKK S A D Z T M c k) (hc : ∀ w, w < k → c w = c' w) : OKK S A D Z T M c' k := fun t ht => by
  rw [← depN_c (S := S) (A := A) (t := t) k (fun w hw => Or.inl (hc w hw)), ← tpS_c (S := S) (A := A) (t := t) k (fun w hw => Or.inl (hc w hw))]
  exact h t ht
end OK
section XR
variable {S : Nat → Int32} {w w' : Wd} {n T Y P a : Nat} {b : Nat → Nat}
/-- what is told stands in the rows -/
def RDT (b : Nat → Nat) (T : Nat) (w : Wd) : Prop := wI w 48 1 = nI T ∧ ∀ t, t < T → wI w 49 t = nI (rdA b t) ∧ wI w 50 t = nI (b (4 * t + 3)) ∧ wI w 54 t = nI (b (4 * t + 2)) ∧ wI w 56 t = -1
theorem x_108 (hR : HR S w a) (ha : a = 7 ∨ a = 17) (hX : XT n b w) : tp (sh_108 48 1 a w) (fun r w' => Kp rkP w w' ∧ F48 (fun j => j = 1) w w' ∧ ((r = true ∧ rdOk S n b ∧ RDT b (n / 4) w') ∨ (r = false ∧ ¬ rdOk S n b))) := by
  obtain ⟨hn, hX1, hXb⟩ := hX
  unfold sh_108
  refine tp_lt ?_
  rw [hX1, show zrem (nI n) 4 = nI (n % 4) from nI_rem (d := 4) (by omega) (by decide) (by decide), show nI n / 4 = nI (n / 4) from nI_div (d := 4) (by omega) (by decide) (by decide)]
  by_cases q4 : n % 4 = 0
  · refine tp_if (by rw [q4]; rfl) ?_
    by_cases q1 : 1 ≤ n / 4
    · refine tp_if (show (1 : Int32) ≤ nI (n / 4) from nle (a := 1) q1 (by omega)) ?_
      by_cases q8 : n / 4 ≤ 8
      · refine tp_ifn (show ¬ (8 : Int32) < nI (n / 4) from nnlt (a := 8) q8 (by decide)) (tp_stG (fun v e1 k1 => ?_))
        obtain ⟨T, eT⟩ : ∃ T, T = n / 4 := ⟨_, rfl⟩
        have en : n = 4 * T := by omega
        rw [← eT] at e1 q1 q8 ⊢
        have hok : rdOk S n b ↔ ∀ t, t < T → rdO S b t := ⟨fun h => by rw [eT]; exact h.2.2.2, fun h => ⟨q4, by omega, by omega, by rw [← eT]; exact h⟩⟩
        have kv : Kp rkP w v := k1.mono (fun q y => by unfold rkP; omega)
        refine tp_it (fun t st x => st = nI t ∧ t ≤ T ∧ (∀ t', t' < t → rdO S b t') ∧ (∀ t', t' < t → wI x 49 t' = nI (rdA b t') ∧ wI x 50 t' = nI (b (4 * t' + 3)) ∧ wI x 54 t' = nI (b (4 * t' + 2)) ∧ wI x 56 t' = -1) ∧ Kp (fun q => 49 ≤ q ∧ q ≤ 56) v x) T (by omega) ⟨rfl, Nat.zero_le _, fun t' h => by omega, fun t' h => by omega, Kp.refl⟩ (fun t st x hI => ?_)
        obtain ⟨es, ht, ho, hr, kx⟩ := hI
        have kwx : Kp rkP w x := kv.trans (kx.mono (fun q y => by unfold rkP; omega))
        have f48 : F48 (fun j => j = 1) w x := fun j hj => by rw [kx.I (by decide), e1, up_o hj]
        have hXx : XT n b x := ⟨hn, by rw [kwx.I (by unfold rkP; decide)]; exact hX1, fun j hj => by rw [kwx.I (by unfold rkP; decide)]; exact hXb j hj⟩
        rw [es, show wI x 48 1 = nI T by rw [kx.I (by decide), e1, up_s]]
        by_cases q : t < T
        · have hib8 : ib (nI t) 8 = true := ib_nI (by omega) (by decide)
          have hib56 : ib (nI t) 56 = true := ib_nI (by omega) (by decide)
          have no : ¬ rdO S b t → (Kp rkP w x ∧ F48 (fun j => j = 1) w x ∧ ((false = true ∧ rdOk S n b ∧ RDT b T x) ∨ (false = false ∧ ¬ rdOk S n b))) := fun h => ⟨kwx, f48, Or.inr ⟨rfl, fun z => h (hok.mp z t q)⟩⟩
          have x0 : wI x a 0 = S 0 := by rw [kwx.I (by unfold rkP; omega)]; exact hR.1
          have x1 : wI x a 1 = S 1 := by rw [kwx.I (by unfold rkP; omega)]; exact hR.2.1
          rw [show (4 : Int32) * nI t = nI (4 * t) from nI_m (a := 4), show nI (4 * t) + 1 = nI (4 * t + 1) from nI_p _ 1, show nI (4 * t) + 2 = nI (4 * t + 2) from nI_p _ 2, show nI (4 * t) + 3 = nI (4 * t + 3) from nI_p _ 3]
          refine tp_if (nlt q (by omega)) (tp_if (show nI t < nI 8 from nlt (by omega) (by omega)) (tp_ce (x_byteAt hXx (by omega)).1 (tp_ce (x_byteAt hXx (by omega)).1 (tp_ce (x_byteAt hXx (by omega)).1 ?_))))
          have b0 := (hXb (4 * t) (by omega)).2
          have b1 := (hXb (4 * t + 1) (by omega)).2
          have b3 := (hXb (4 * t + 3) (by omega)).2
          rw [x0, x1]
          by_cases q0 : nI (b (4 * t)) < S 0
          · refine tp_if q0 ?_
            by_cases q2 : nI (b (4 * t + 1)) < S 1
            · refine tp_if q2 (tp_jnP (fun _ x' => x' = x ∧ (b (4 * t + 3) ≤ 9 ∨ b (4 * t + 3) = 255)) (fun j hj => ?_) (fun _ x' hx => ?_))
              · by_cases q3 : b (4 * t + 3) ≤ 9
                · exact tp_ifn (show ¬ (9 : Int32) < nI (b (4 * t + 3)) from nnlt (a := 9) q3 (by decide)) (hj _ _ ⟨rfl, Or.inl q3⟩)
                · refine tp_if (show (9 : Int32) < nI (b (4 * t + 3)) from nlt (a := 9) (by omega) (by omega)) ?_
                  by_cases q5 : b (4 * t + 3) = 255
                  · exact tp_if (by rw [q5]; rfl) (hj _ _ ⟨rfl, Or.inr q5⟩)
                  · exact tp_ifn (n_ne (b := 255) q5 (by omega) (by decide)) (tp_out (no (fun z => z.2.2.elim q3 q5)))
              · obtain ⟨ex, hz⟩ := hx
                rw [ex, show nI (b (4 * t + 1)) * 12 + nI (b (4 * t)) = nI (rdA b t) by rw [show nI (b (4 * t + 1)) * 12 = nI (b (4 * t + 1) * 12) from nI_m (b := 12), nI_p, Nat.mul_comm]; rfl, ix_nI (by omega)]
                refine tp_gd hib8 (tp_stG (fun y1 g1 m1 => ?_))
                have hXy : XT n b y1 := ⟨hn, by rw [m1.I (by decide)]; exact hXx.2.1, fun j hj => by rw [m1.I (by decide)]; exact hXx.2.2 j hj⟩
                refine tp_ce (x_byteAt hXy (by omega)).1 (tp_gd hib56 (tp_stG (fun y2 g2 m2 => tp_gd hib56 (tp_stG (fun y3 g3 m3 => tp_gd hib8 (tp_stG (fun y4 g4 m4 => tp_lt (tp_on ⟨q, nI_s t, by omega, fun t' ht' => ?_, fun t' ht' => ?_, ?_⟩))))))))
                · by_cases z : t' = t
                  · rw [z]; exact ⟨q0, q2, hz⟩
                  · exact ho t' (by omega)
                · have r49 : wI y4 49 = up (wI x 49) t (nI (rdA b t)) := by rw [m4.I (by decide), m3.I (by decide), m2.I (by decide)]; exact g1
                  have r54 : wI y4 54 = up (wI x 54) t (nI (b (4 * t + 2))) := by rw [m4.I (by decide), m3.I (by decide), show wI y2 54 = wI y2 (48 + 6) from rfl, g2, m1.I (by decide)]
                  have r56 : wI y4 56 = up (wI x 56) t (-1) := by rw [m4.I (by decide), show wI y3 56 = wI y3 (48 + 8) from rfl, g3, m2.I (by decide), m1.I (by decide)]
                  have r50 : wI y4 50 = up (wI x 50) t (nI (b (4 * t + 3))) := by rw [show wI y4 50 = wI y4 (48 + 2) from rfl, g4, m3.I (by decide), m2.I (by decide), m1.I (by decide)]
                  rw [r49, r50, r54, r56]
                  by_cases z : t' = t
                  · rw [z, up_s, up_s, up_s, up_s]; exact ⟨rfl, rfl, rfl, rfl⟩
                  · rw [up_o z, up_o z, up_o z, up_o z]; exact hr t' (by omega)
                · exact (((kx.trans (m1.mono (fun q y => by omega))).trans (m2.mono (fun q y => by omega))).trans (m3.mono (fun q y => by omega))).trans (m4.mono (fun q y => by omega))
            · exact tp_ifn q2 (tp_out (no (fun z => q2 z.2.1)))
          · exact tp_ifn q0 (tp_out (no (fun z => q0 z.1)))
        · have : t = T := by omega
          subst this
          exact tp_ifn (nnlt (Nat.le_refl _) (by omega)) (tp_out ⟨kwx, f48, Or.inl ⟨rfl, hok.mpr ho, by rw [kx.I (by decide), e1, up_s], hr⟩⟩)
      · exact tp_if (show (8 : Int32) < nI (n / 4) from nlt (a := 8) (by omega) (by omega)) (tp_some ⟨Kp.refl, fun _ _ => rfl, Or.inr ⟨rfl, fun z => q8 z.2.2.1⟩⟩)
    · exact tp_ifn (show ¬ (1 : Int32) ≤ nI (n / 4) from nnle (b := n / 4) (a := 1) (by omega) (by decide)) (tp_some ⟨Kp.refl, fun _ _ => rfl, Or.inr ⟨rfl, fun z => q1 z.2.1⟩⟩)
  · exact tp_ifn (n_ne (b := 0) q4 (by omega) (by decide)) (tp_some ⟨Kp.refl, fun _ _ => rfl, Or.inr ⟨rfl, fun z => q4 z.1⟩⟩)
end XR
