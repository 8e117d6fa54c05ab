/-! readings(), the reference -/
section YX2
variable {S : Nat → Int32} {w w' : Wd} {n T Y P B e fe : Nat} {b c A : Nat → Nat}
theorem y_readings (hF : WF S) (hS : wI w 168 = S) (hM : MT n b w) (hn : n ≤ 940) (hbb : ∀ j, j < n → b j < 256) (hY : S 3 = nI Y) (hY6 : Y ≤ 6) (hP : S 2 = nI P) (hP6 : P ≤ 6) (hB : B = P + 1) : tp (sh_241 166 w) (fun r w' => MT 0 b w' ∧ Kp (fun q => rmK q ∨ q = 174) w w' ∧ Fm rmF w w' ∧ ((¬ rdOk S n b ∧ r = -1 ∧ wI w' 166 28 = wI w 166 28 ∧ wI w' 166 29 = wI w 166 29 ∧ wI w' 176 = wI w 176 ∧ wI w' 177 = wI w 177) ∨ (rdOk S n b ∧ ∃ cnt fe, r = nI cnt ∧ cnt ≤ B ^ Y ∧ fe ≤ 6 ∧ RST (rdQ S (rdA b) b (n / 4) Y B) (dg B Y) (rdPP B Y) Y (B ^ Y) cnt (fun k => wI w' 176 k) (fun k => wI w' 177 k) fe ∧ (cnt = 0 → wI w' 166 28 = wI w 166 28 ∧ wI w' 166 29 = wI w 166 29 ∧ wI w' 176 = wI w 176 ∧ wI w' 177 = wI w 177) ∧ (0 < cnt → wI w' 166 28 = nI Y ∧ wI w' 166 29 = nI fe)))) := by
  unfold sh_241
  have hM0 : MT n b (sI w 166 0 0) := ⟨by rw [wI_other (by decide)]; exact hM.1, fun j hj => by rw [wI_row (by decide)]; exact hM.2 j hj⟩
  refine tp_stI (tp_cl (y_taken hn hbb (lim := 940) (by decide) hM0) (fun _ v h1 => ?_))
  obtain ⟨hB1, -, y2, kv, fv⟩ := h1
  have hb : ∀ p, p < n → wI v 167 p &&& 255 = nI (b p) ∧ b p < 256 := hB1.2.2.2.2
  have e3 : wI v 166 3 = nI n := hB1.2.2.1
  have kwv : Kp (fun q => q = 166) w v := (kp0 (P := fun q => q = 166) rfl).trans kv
  have fwv : Fm rmF w v := fun j hj => by
    rw [fv j (fun q => hj (Or.inr (Or.inl q))), wI_other (fun q => hj (Or.inl q))]
  have hSv : wI v 168 = S := by rw [kwv.I (by decide)]; exact hS
  have kw0 : ∀ {x : Wd}, Kp (fun q => q = 174) v x → Kp (fun q => rmK q ∨ q = 174) w x := fun kx => (kwv.mono (fun q y => Or.inl (Or.inl y))).trans (kx.mono (fun q y => Or.inr y))
  have bad : ∀ x : Wd, Kp (fun q => q = 174) v x → ¬ rdOk S n b → MT 0 b x ∧ Kp (fun q => rmK q ∨ q = 174) w x ∧ Fm rmF w x ∧ ((¬ rdOk S n b ∧ (-1 : Int32) = -1 ∧ wI x 166 28 = wI w 166 28 ∧ wI x 166 29 = wI w 166 29 ∧ wI x 176 = wI w 176 ∧ wI x 177 = wI w 177) ∨ (rdOk S n b ∧ ∃ cnt fe, (-1 : Int32) = nI cnt ∧ cnt ≤ B ^ Y ∧ fe ≤ 6 ∧ RST (rdQ S (rdA b) b (n / 4) Y B) (dg B Y) (rdPP B Y) Y (B ^ Y) cnt (fun k => wI x 176 k) (fun k => wI x 177 k) fe ∧ (cnt = 0 → wI x 166 28 = wI w 166 28 ∧ wI x 166 29 = wI w 166 29 ∧ wI x 176 = wI w 176 ∧ wI x 177 = wI w 177) ∧ (0 < cnt → wI x 166 28 = nI Y ∧ wI x 166 29 = nI fe))) := fun x kx hno => by
    refine ⟨⟨by rw [kx.I (by decide)]; exact y2, fun j hj => by omega⟩, kw0 kx, fun j hj => by rw [kx.I (by decide)]; exact fwv j hj, Or.inl ⟨hno, rfl, ?_, ?_, ?_, ?_⟩⟩
    · rw [kx.I (by decide), fv 28 (by decide), wI_other (by decide)]
    · rw [kx.I (by decide), fv 29 (by decide), wI_other (by decide)]
    · rw [kx.I (by decide), kwv.I (by decide)]
    · rw [kx.I (by decide), kwv.I (by decide)]
  rw [e3, show zrem (nI n) 4 = nI (n % 4) from nI_rem (d := 4) (by omega) (by decide) (by decide), show nI n / 4 = nI (n / 4) from nI_div (d := 4) (by omega) (by decide) (by decide)]
  by_cases q4 : n % 4 = 0
  · refine tp_if (by rw [q4]; rfl) (tp_ce (y_isIn _ _ _ _) ?_)
    by_cases q8 : 1 ≤ n / 4 ∧ n / 4 ≤ 8
    · refine tp_if (by rw [decide_eq_true (show (1 : Int32) ≤ nI (n / 4) from nle (a := 1) q8.1 (by omega)), decide_eq_true (show nI (n / 4) ≤ (8 : Int32) from nle (b := 8) q8.2 (by decide))]; rfl) ?_
      rw [e3, show nI n / 4 = nI (n / 4) from nI_div (d := 4) (by omega) (by decide) (by decide)]
      refine tp_lt ?_
      obtain ⟨T, eT⟩ : ∃ T, T = n / 4 := ⟨_, rfl⟩
      have en : n = 4 * T := by omega
      rw [← eT] at q8 bad ⊢
      have hok : rdOk S n b ↔ ∀ t, t < T → rdO S b t := ⟨fun h => by rw [eT]; exact h.2.2.2, fun h => ⟨q4, by omega, by omega, by rw [← eT]; exact h⟩⟩
      refine tp_it (fun t st x => st = nI (4 * t) ∧ t ≤ T ∧ (∀ t', t' < t → rdO S b t') ∧ (∀ t', t' < t → ∀ k, k < 6 → wI x 174 (6 * t' + k) = nI (rdP S (rdA b) k t')) ∧ Kp (fun q => q = 174) v x) T (by omega) ⟨rfl, Nat.zero_le _, fun t' h => by omega, fun t' h => by omega, Kp.refl⟩ (fun t st x hI => ?_)
      obtain ⟨es, ht, ho, htr, kx⟩ := hI
      rw [es, show wI x 166 3 = nI n by rw [kx.I (by decide)]; exact e3]
      by_cases q : t < T
      · have b0 := hb (4 * t) (by omega)
        have b1 := hb (4 * t + 1) (by omega)
        have b3 := hb (4 * t + 3) (by omega)
        have l1' : nI (4 * t) + 1 = nI (4 * t + 1) := nI_p _ 1
        have l3' : nI (4 * t) + 3 = nI (4 * t + 3) := nI_p _ 3
        have x2 : wI x (166 + 2) = S := by rw [show wI x (166 + 2) = wI v 168 from kx.I (by decide)]; exact hSv
        have no : ¬ rdO S b t → ¬ rdOk S n b := fun h z => h (hok.mp z t q)
        refine tp_if (nlt (by omega) (by omega)) (tp_ce (y_octet (by omega) (by rw [kx.I (by decide)]; exact b0.1)) (tp_gd (by decide) ?_))
        rw [x2, show S (ix 0) = S 0 from rfl]
        by_cases q0 : nI (b (4 * t)) < S 0
        · refine tp_if q0 ?_
          rw [l1']
          refine tp_ce (y_octet (by omega) (by rw [kx.I (by decide)]; exact b1.1)) (tp_gd (by decide) ?_)
          rw [x2, show S (ix 1) = S 1 from rfl]
          by_cases q1 : nI (b (4 * t + 1)) < S 1
          · refine tp_if q1 ?_
            rw [l3', ← l1']
            refine tp_ce (y_octet (by omega) (by rw [kx.I (by decide)]; exact b3.1)) (tp_jnP (fun _ x' => x' = x ∧ (b (4 * t + 3) ≤ 9 ∨ b (4 * t + 3) = 255)) (fun j hj => ?_) (fun _ x' hx => ?_))
            · by_cases q2 : b (4 * t + 3) ≤ 9
              · exact tp_ifn (show ¬ (9 : Int32) < nI (b (4 * t + 3)) from nnlt (a := 9) q2 (by decide)) (hj _ _ ⟨rfl, Or.inl q2⟩)
              · refine tp_if (show (9 : Int32) < nI (b (4 * t + 3)) from nlt (a := 9) (by omega) (by omega)) (tp_ce (y_octet (by omega) (by rw [kx.I (by decide)]; exact b3.1)) ?_)
                by_cases q3 : b (4 * t + 3) = 255
                · exact tp_if (by rw [q3]; rfl) (hj _ _ ⟨rfl, Or.inr q3⟩)
                · exact tp_ifn (n_ne (b := 255) q3 (by omega) (by decide)) (tp_out (bad x kx (no (fun z => z.2.2.elim q2 q3))))
            · obtain ⟨ex, hz⟩ := hx
              rw [ex]
              refine y_rdTreads hF hSv hY hY6 q (by omega) (fun p hp => hb p (by omega)) kx htr (fun y ky hy => ⟨q, rfl, by omega, fun t' ht' => ?_, hy, ky⟩)
              by_cases z : t' = t
              · rw [z]; exact ⟨q0, q1, hz⟩
              · exact ho t' (by omega)
          · exact tp_ifn q1 (tp_out (bad x kx (no (fun z => q1 z.2.1))))
        · exact tp_ifn q0 (tp_out (bad x kx (no (fun z => q0 z.1))))
      · have : t = T := by omega
        subst this
        refine tp_ifn (nnlt (by omega) (by omega)) ?_
        show tp (rdTail (nI t) x) _
        refine tp_mono (y_tail (w := x) hF (by rw [kx.I (by decide)]; exact hSv) hY hY6 hP hP6 hB (by omega) htr (fun p hp => by rw [kx.I (by decide)]; exact hb p (by omega))) (fun o x' ho2 => ?_)
        obtain ⟨cnt, fe, eo, hcn, hfe, hR, kk, ff, c0, c1⟩ := ho2
        rw [eo]
        refine ⟨⟨by rw [ff 2 (by decide), kx.I (by decide)]; exact y2, fun j hj => by omega⟩, (kw0 kx).trans (kk.mono (fun q y => Or.inl y)), fun j hj => ?_, Or.inr ⟨hok.mpr ho, cnt, fe, rfl, hcn, hfe, hR, fun z => ?_, c1⟩⟩
        · rw [ff j (fun q => hj (Or.inr (Or.inr q))), kx.I (by decide)]; exact fwv j hj
        · obtain ⟨g1, g2, g3, g4⟩ := c0 z
          refine ⟨?_, ?_, ?_, ?_⟩
          · rw [g1, kx.I (by decide), fv 28 (by decide), wI_other (by decide)]
          · rw [g2, kx.I (by decide), fv 29 (by decide), wI_other (by decide)]
          · rw [g3, kx.I (by decide), kwv.I (by decide)]
          · rw [g4, kx.I (by decide), kwv.I (by decide)]
    · refine tp_ifn (fun z => ?_) (tp_some (bad v Kp.refl (fun h => q8 ⟨h.2.1, h.2.2.1⟩)))
      rw [Bool.and_eq_true, decide_eq_true_eq, decide_eq_true_eq] at z
      exact q8 ⟨(nI_leI (a := 1) (by decide) (by omega)).mp z.1, (nI_leI (b := 8) (by omega) (by decide)).mp z.2⟩
  · exact tp_ifn (n_ne (b := 0) q4 (by omega) (by decide)) (tp_some (bad v Kp.refl (fun h => q4 h.1)))
end YX2
