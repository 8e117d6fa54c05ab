/-! READINGS: the class tells one; adds what is free; settles -/
section XC
variable {S : Nat → Int32} {w w' : Wd} {n T Y P B M a t k fe : Nat} {b A c D Z : Nat → Nat}
theorem x_115 (hR : HR S w a) (ha : a = 7 ∨ a = 17) (hY : S 3 = nI Y) (hY6 : Y ≤ 6) {pc : Nat} (hpc : pc < 1000) (hn : n < 1000000) (h11 : wI w 48 11 = nI n) (h0 : 0 < n → wI w 48 0 = nI fe) (hfe : fe < 1000) (h57 : ∀ k, k < Y → wI w 57 k = nI (c k) - 1) : tp (sh_115 48 a (nI pc) w) (fun _ w' => Kp (fun q => q = 48 ∨ q = 58 ∨ q = 59) w w' ∧ F48 (fun j => j = 0 ∨ j = 11) w w' ∧ wI w' 48 11 = nI (n + 1) ∧ wI w' 48 0 = nI (if n = 0 then pc else if pc < fe then pc else fe) ∧ ∀ k, k < Y → wI w' 58 k = (if n = 0 then nI (c k) - 1 else wI w 58 k) ∧ wI w' 59 k = (if n = 0 then nI (c k) - 1 else if wI w 59 k = nI (c k) - 1 then wI w 59 k else -2)) := by
  unfold sh_115
  rw [h11, nI_s]
  refine tp_stG (fun x e1 k1 => tp_jnP (fun _ x2 => Kp (fun q => q = 48) w x2 ∧ F48 (fun j => j = 0 ∨ j = 11) w x2 ∧ wI x2 48 11 = nI (n + 1) ∧ wI x2 48 0 = nI (if n = 0 then pc else if pc < fe then pc else fe)) (fun j2 hj2 => ?_) (fun _ x2 hx2 => ?_))
  · have x11 : wI x 48 11 = nI (n + 1) := by rw [e1, up_s]
    have x0 : wI x 48 0 = wI w 48 0 := by rw [e1, up_o (by decide)]
    have f1 : F48 (fun j => j = 0 ∨ j = 11) w x := fun j hj => by rw [e1, up_o (by omega)]
    refine tp_jnP (fun _ x3 => x3 = x ∧ (n = 0 ∨ pc < fe)) (fun j18 hj => ?_) (fun _ x3 hx3 => ?_)
    · rw [x11]
      by_cases q : n = 0
      · exact tp_if (by rw [q]; rfl) (hj _ _ ⟨rfl, Or.inl q⟩)
      · refine tp_ifn (show ¬ nI (n + 1) = (1 : Int32) from n_ne (b := 1) (by omega) (by omega) (by decide)) ?_
        rw [x0, h0 (by omega)]
        by_cases q2 : pc < fe
        · exact tp_if (nlt q2 (by omega)) (hj _ _ ⟨rfl, Or.inr q2⟩)
        · exact tp_ifn (nnlt (by omega) (by omega)) (hj2 _ _ ⟨k1, f1, x11, by rw [if_neg q, if_neg q2, x0, h0 (by omega)]⟩)
    · rw [hx3.1]
      refine tp_stG (fun x4 e4 k4 => hj2 _ _ ⟨k1.trans k4, fun j hj => by rw [e4, up_o (by omega)]; exact f1 j hj, by rw [e4, up_o (by decide)]; exact x11, ?_⟩)
      rw [e4, up_s]
      by_cases q : n = 0
      · rw [if_pos q]
      · rw [if_neg q]
        rcases hx3.2 with y | y
        · exact absurd y q
        · rw [if_pos y]
  · obtain ⟨k2, f2, g11, g0⟩ := hx2
    refine tp_it (fun k st y => st = nI k ∧ k ≤ Y ∧ Kp (fun q => q = 58 ∨ q = 59) x2 y ∧ (∀ j, k ≤ j → wI y 58 j = wI w 58 j ∧ wI y 59 j = wI w 59 j) ∧ ∀ j, j < k → wI y 58 j = (if n = 0 then nI (c j) - 1 else wI w 58 j) ∧ wI y 59 j = (if n = 0 then nI (c j) - 1 else if wI w 59 j = nI (c j) - 1 then wI w 59 j else -2)) Y (by omega) ⟨rfl, Nat.zero_le _, Kp.refl, fun j _ => ⟨by rw [k2.I (by decide)], by rw [k2.I (by decide)]⟩, fun j hj => by omega⟩ (fun k st y hI => ?_)
    obtain ⟨es, hk, ky, hh, hl⟩ := hI
    have kwy : Kp (fun q => q = 48 ∨ q = 58 ∨ q = 59) w y := (k2.mono (fun q y => Or.inl y)).trans (ky.mono (fun q y => by omega))
    rw [es, show wI y a 4 = nI Y by rw [kwy.I (by omega), hR.2.2.2.1]; exact hY, show wI y 48 11 = nI (n + 1) by rw [ky.I (by decide)]; exact g11]
    by_cases q : k < Y
    · have hib : ib (nI k) 6 = true := ib_nI (by omega) (by decide)
      have c57 : ∀ {z : Wd}, Kp (fun q => q = 58 ∨ q = 59) y z → wI z (48 + 9) (ix (nI k)) = nI (c k) - 1 := fun hz => by
        rw [ix_nI (by omega), show wI _ (48 + 9) = wI y 57 from hz.I (by decide), kwy.I (by decide)]; exact h57 k q
      refine tp_if (nlt q (by omega)) (tp_if (show nI k < nI 6 from nlt (by omega) (by omega)) ?_)
      by_cases q0 : n = 0
      · refine tp_if (by rw [q0]; rfl) (tp_gd hib (tp_gd hib ?_))
        rw [c57 Kp.refl]
        refine tp_stG (fun z1 p1 m1 => tp_gd hib (tp_gd hib ?_))
        rw [c57 (m1.mono (fun q y => Or.inl y))]
        rw [ix_nI (by omega)] at p1 ⊢
        refine tp_stG (fun z2 p2 m2 => tp_lt (tp_on ⟨q, nI_s k, by omega, (ky.trans (m1.mono (fun q y => Or.inl y))).trans (m2.mono (fun q y => Or.inr y)), fun j hj => ?_, fun j hj => ?_⟩))
        · rw [m2.I (by decide), show wI z1 58 = wI z1 (48 + 10) from rfl, p1, up_o (by omega), show wI z2 59 = wI z2 (48 + 11) from rfl, p2, up_o (by omega), m1.I (by decide)]
          exact hh j (by omega)
        · rw [m2.I (by decide), show wI z1 58 = wI z1 (48 + 10) from rfl, p1, show wI z2 59 = wI z2 (48 + 11) from rfl, p2, m1.I (by decide)]
          by_cases y2 : j = k
          · rw [y2, up_s, up_s, if_pos q0, if_pos q0]; exact ⟨rfl, rfl⟩
          · rw [up_o y2, up_o y2]; exact hl j (by omega)
      · refine tp_ifn (show ¬ nI (n + 1) = (1 : Int32) from n_ne (b := 1) (by omega) (by omega) (by decide)) (tp_gd hib (tp_gd hib ?_))
        rw [c57 Kp.refl, ix_nI (by omega), show wI y (48 + 11) k = wI w 59 k from (hh k (Nat.le_refl _)).2]
        by_cases q3 : wI w 59 k = nI (c k) - 1
        · refine tp_if q3 (tp_lt (tp_on ⟨q, nI_s k, by omega, ky, fun j hj => hh j (by omega), fun j hj => ?_⟩))
          by_cases y2 : j = k
          · rw [y2, if_neg q0, if_neg q0, if_pos q3]; exact hh k (Nat.le_refl _)
          · exact hl j (by omega)
        · refine tp_ifn q3 (tp_gd hib (tp_stG (fun z2 p2 m2 => tp_lt (tp_on ⟨q, nI_s k, by omega, ky.trans (m2.mono (fun q y => Or.inr y)), fun j hj => ?_, fun j hj => ?_⟩))))
          · rw [m2.I (by decide), show wI z2 59 = wI z2 (48 + 11) from rfl, p2, up_o (by omega)]
            exact hh j (by omega)
          · rw [m2.I (by decide), show wI z2 59 = wI z2 (48 + 11) from rfl, p2]
            by_cases y2 : j = k
            · rw [y2, up_s, if_neg q0, if_neg q0, if_neg q3]
              exact ⟨(hh k (Nat.le_refl _)).1, rfl⟩
            · rw [up_o y2]; exact hl j (by omega)
    · have : k = Y := by omega
      subst this
      exact tp_ifn (nnlt (Nat.le_refl _) (by omega)) (tp_out ⟨kwy, fun j hj => by rw [ky.I (by decide)]; exact f2 j hj, by rw [ky.I (by decide)]; exact g11, by rw [ky.I (by decide)]; exact g0, hl⟩)
theorem x_117 (hR : HR S w a) (ha : a = 7 ∨ a = 17) (hY : S 3 = nI Y) (hY6 : Y ≤ 6) (hP : S 2 = nI P) (hP6 : P ≤ 6) (hB : B = P + 1) {fr : Nat → Bool} (h53 : ∀ k, k < 6 → wI w 53 k = bi (fr k)) (h11 : wI w 48 11 = nI n) : tp (sh_117 48 a w) (fun _ w' => Kp (fun q => q = 48 ∨ q = 59) w w' ∧ F48 (fun j => j = 11) w w' ∧ wI w' 48 11 = nI (n * frN fr B 0 Y) ∧ ∀ k, k < Y → wI w' 59 k = if fr k = true ∧ 1 < B then -2 else wI w 59 k) := by
  unfold sh_117
  refine tp_it (fun k st y => st = nI k ∧ k ≤ Y ∧ Kp (fun q => q = 48 ∨ q = 59) w y ∧ F48 (fun j => j = 11) w y ∧ (∃ x, wI y 48 11 = nI x ∧ x * frN fr B k (Y - k) = n * frN fr B 0 Y) ∧ (∀ j, k ≤ j → wI y 59 j = wI w 59 j) ∧ ∀ j, j < k → wI y 59 j = if fr j = true ∧ 1 < B then -2 else wI w 59 j) Y (by omega) ⟨rfl, Nat.zero_le _, Kp.refl, fun _ _ => rfl, ⟨n, h11, rfl⟩, fun _ _ => rfl, fun j hj => by omega⟩ (fun k st y hI => ?_)
  obtain ⟨es, hk, ky, fy, ⟨x, ex, hx⟩, hh, hl⟩ := hI
  rw [es, show wI y a 4 = nI Y by rw [ky.I (by omega), hR.2.2.2.1]; exact hY]
  by_cases q : k < Y
  · have hib : ib (nI k) 6 = true := ib_nI (by omega) (by decide)
    have ed : Y - k = (Y - (k + 1)) + 1 := by omega
    rw [ed] at hx
    have hx' : x * ((if fr k = true then B else 1) * frN fr B (k + 1) (Y - (k + 1))) = n * frN fr B 0 Y := hx
    refine tp_if (nlt q (by omega)) (tp_if (show nI k < nI 6 from nlt (by omega) (by omega)) (tp_gd hib ?_))
    rw [ix_nI (by omega), show wI y (48 + 5) k = bi (fr k) by rw [show wI y (48 + 5) = wI w 53 from ky.I (by decide)]; exact h53 k (by omega)]
    have same : ∀ {α : Type} {Q : α → Wd → Prop}, ¬ (fr k = true ∧ 1 < B) → tp (lt (nI k + 1 : Int32) (fun v => (some (.inl v, y) : Option ((Int32 ⊕ α) × Wd)))) (lpQ (fun st y => k < Y ∧ st = nI (k + 1) ∧ k + 1 ≤ Y ∧ Kp (fun q => q = 48 ∨ q = 59) w y ∧ F48 (fun j => j = 11) w y ∧ (∃ x, wI y 48 11 = nI x ∧ x * frN fr B (k + 1) (Y - (k + 1)) = n * frN fr B 0 Y) ∧ (∀ j, k + 1 ≤ j → wI y 59 j = wI w 59 j) ∧ ∀ j, j < k + 1 → wI y 59 j = if fr j = true ∧ 1 < B then -2 else wI w 59 j) Q) := fun hn => by
      refine tp_lt (tp_on ⟨q, nI_s k, by omega, ky, fy, ⟨x, ex, ?_⟩, fun j hj => hh j (by omega), fun j hj => ?_⟩)
      · rw [← hx']
        by_cases y2 : fr k = true
        · have : B = 1 := by
            have : ¬ 1 < B := fun z => hn ⟨y2, z⟩
            omega
          rw [if_pos y2, this, Nat.one_mul]
        · rw [if_neg y2, Nat.one_mul]
      · by_cases y2 : j = k
        · rw [y2, if_neg hn]; exact hh k (Nat.le_refl _)
        · exact hl j (by omega)
    cases hf : fr k with
    | false =>
      rw [hf] at same
      exact tp_if rfl (same (fun z => by cases z.1))
    | true =>
      rw [hf] at same
      have ep : wI y a 3 = nI P := by rw [ky.I (by omega), hR.2.2.1]; exact hP
      refine tp_ifn (by decide) ?_
      rw [ep]
      by_cases qp : 0 < P
      · refine tp_if (jp qp (by omega)) ?_
        rw [ex, nI_s, nI_m]
        refine tp_stG (fun y1 e1 k1 => tp_gd hib (tp_stG (fun y2 e2 k2 => tp_lt (tp_on ⟨q, nI_s k, by omega, (ky.trans (k1.mono (fun q y => Or.inl y))).trans (k2.mono (fun q y => Or.inr y)), fun j hj => ?_, ⟨x * (P + 1), ?_, ?_⟩, fun j hj => ?_, fun j hj => ?_⟩))))
        · rw [k2.I (by decide), e1, up_o hj]; exact fy j hj
        · rw [k2.I (by decide), e1, up_s]
        · rw [if_pos hf] at hx'
          rw [← hx', ← hB, Nat.mul_assoc]
        · rw [show wI y2 59 = wI y2 (48 + 11) from rfl, e2, up_o (by omega), k1.I (by decide)]; exact hh j (by omega)
        · rw [show wI y2 59 = wI y2 (48 + 11) from rfl, e2]
          by_cases z : j = k
          · rw [z, up_s, if_pos ⟨hf, by omega⟩]
          · rw [up_o z, k1.I (by decide)]; exact hl j (by omega)
      · refine tp_ifn (by rw [show P = 0 by omega]; decide) (same (fun z => ?_))
        have := z.2
        omega
  · have : k = Y := by omega
    subst this
    rw [Nat.sub_self] at hx
    have hx' : x * 1 = n * frN fr B 0 k := hx
    rw [Nat.mul_one] at hx'
    exact tp_ifn (nnlt (Nat.le_refl _) (by omega)) (tp_out ⟨ky, fy, by rw [ex, hx'], hl⟩)
end XC
