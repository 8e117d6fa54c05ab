/-! READINGS: the reference tells one -/
def rdTail (v1_8 : Int32) (w11 : Wd) : Option ((Int32 ⊕ Int32) × Wd) := itM (fun (v2_54 : Int32) (w56 : Wd) => if v2_54 < 6 then (gd (ib v2_54 6) (stI w56 (166 + 9) (ix v2_54) 0 (fun w58 => lt (v2_54 + 1 : Int32) (fun v2_59 => some (.inl v2_59, w58))))) else (itM (fun (s78 : Int32 × Int32) (w63 : Wd) => match s78 with | (v2_60, v3_61) => if v3_61 = 0 then (some (.inr (.inr (.inr (v2_60))), w63)) else (cl (sh_243 166 v1_8 w63) (fun r66 w65 => if r66 = true then (lt (v2_60 + 1 : Int32) (fun v2_68 => lt (if v2_68 = 1 then true else false : Bool) (fun z69 => cl (sh_244 166 z69 w65) (fun _ w70 => cl (sh_245 166 w70) (fun r73 w72 => some (.inl (v2_68, bi r73), w72)))))) else (cl (sh_245 166 w65) (fun r77 w76 => some (.inl (v2_60, bi r77), w76)))))) FU (0, 1) w56)) FU 0 w11
theorem sh6 : ∀ d, d < 7 → (1 : Int32) <<< (nI d &&& 31) = nI (2 ^ d) := by decide
theorem or_2 : ∀ m, m < 64 → ∀ d, d < 7 → 0 < d → 2 * m ||| 2 ^ d = 2 * (m ||| 2 ^ (d - 1)) := by decide +kernel
def fsN (m : Nat) : Nat → Nat
  | 0 => 0
  | j + 1 => fsN m j + m / 2 ^ j % 2
theorem fs_st : ∀ m, m < 64 → ∀ j, j < 6 → (nI (2 * m) >>> (nI (j + 1) &&& 31)) &&& 1 = nI (m / 2 ^ j % 2) := by decide +kernel
theorem fs_pc : ∀ m, m < 64 → fsN m 6 = pcN m := by decide +kernel
theorem fs_le (m : Nat) : ∀ j, fsN m j ≤ j := by
  intro j
  induction j with
  | zero => exact Nat.le_refl _
  | succ j ih =>
    show fsN m j + m / 2 ^ j % 2 ≤ j + 1
    have := Nat.mod_lt (m / 2 ^ j) (show 0 < 2 by decide)
    omega
section YM
variable {S : Nat → Int32} {w w' : Wd} {n T Y P B e fe : Nat} {b c A : Nat → Nat}
/-- one that fits is told -/
theorem y_reads (hS : wI w 168 = S) (hY : S 3 = nI Y) (hY6 : Y ≤ 6) (hc : ∀ k, k < Y → wI w 175 k = nI (c k) ∧ c k < 7) (p1 : Bool) (h29 : p1 = false → wI w 166 29 = nI fe) (hfe : fe < 1000) : tp (sh_244 166 p1 w) (fun _ w' => Kp (fun q => q = 166 ∨ q = 176 ∨ q = 177) w w' ∧ Fm (fun j => j = 28 ∨ j = 29) w w' ∧ wI w' 166 28 = nI Y ∧ wI w' 166 29 = (if p1 = true then nI (pcN (mkB c Y)) else if pcN (mkB c Y) < fe then nI (pcN (mkB c Y)) else nI fe) ∧ ∀ k, k < Y → wI w' 176 k = (if p1 = true then nI (c k) - 1 else wI w 176 k) ∧ wI w' 177 k = (if p1 = true then nI (c k) - 1 else if wI w 177 k = nI (c k) - 1 then wI w 177 k else -2)) := by
  have hmk : ∀ k, k ≤ Y → mkB c k < 64 := fun k hk => mkB_lt k (fun j hj => (hc j (by omega)).2)
  have hm := hmk Y (Nat.le_refl _)
  have e3 : ∀ x, Kp (fun q => q = 176 ∨ q = 177) w x → wI x (166 + 2) (ix 3) = nI Y := fun x hx => by rw [show wI x (166 + 2) = wI w 168 from hx.I (by decide), hS]; exact hY
  unfold sh_244
  refine tp_it (fun k st x => st = (nI (2 * mkB c k), nI k) ∧ k ≤ Y ∧ Kp (fun q => q = 176 ∨ q = 177) w x ∧ (∀ j, k ≤ j → wI x 176 j = wI w 176 j ∧ wI x 177 j = wI w 177 j) ∧ ∀ j, j < k → wI x 176 j = (if p1 = true then nI (c j) - 1 else wI w 176 j) ∧ wI x 177 j = (if p1 = true then nI (c j) - 1 else if wI w 177 j = nI (c j) - 1 then wI w 177 j else -2)) Y (by omega) ⟨rfl, Nat.zero_le _, Kp.refl, fun j _ => ⟨rfl, rfl⟩, fun j hj => by omega⟩ (fun k st x hI => ?_)
  obtain ⟨es, hk, kx, h1, h2⟩ := hI
  rw [es]
  show tp (gd (ib 3 10265) _) _
  rw [e3 x kx]
  refine tp_gd (by decide) ?_
  by_cases q : k < Y
  · obtain ⟨c1, c2⟩ := hc k q
    have hib : ib (nI k) 6 = true := ib_nI (by omega) (by decide)
    have f9 : ∀ x2, Kp (fun q => q = 176 ∨ q = 177) w x2 → wI x2 (166 + 9) (ix (nI k)) = nI (c k) := fun x2 hx => by rw [ix_nI (by omega), show wI x2 (166 + 9) = wI w 175 from hx.I (by decide)]; exact c1
    have hmk1 := hmk k hk
    refine tp_if (nlt q (by omega)) (tp_gd hib (tp_jnP (fun v x2 => v = nI (2 * mkB c (k + 1)) ∧ x2 = x) (fun j6 hj6 => ?_) (fun v x2 hv => ?_)))
    · rw [f9 x kx]
      have em : mkB c (k + 1) = if c k = 0 then mkB c k else mkB c k ||| 2 ^ (c k - 1) := rfl
      by_cases q0 : c k = 0
      · rw [if_pos q0] at em
        exact tp_ifn (by rw [q0]; decide) (hj6 _ _ ⟨by rw [em], rfl⟩)
      · rw [if_neg q0] at em
        refine tp_if (jp (by omega) (by omega)) (tp_gd hib (tp_lt (hj6 _ _ ⟨?_, rfl⟩)))
        rw [sh6 _ c2, n_or, or_2 _ hmk1 _ c2 (by omega), em]
    · obtain ⟨ev, ex⟩ := hv
      rw [ev, ex]
      refine tp_jnP (fun _ x3 => Kp (fun q => q = 176 ∨ q = 177) w x3 ∧ (∀ j, ¬ j = k → wI x3 176 j = wI x 176 j ∧ wI x3 177 j = wI x 177 j) ∧ wI x3 176 k = (if p1 = true then nI (c k) - 1 else wI w 176 k) ∧ wI x3 177 k = (if p1 = true then nI (c k) - 1 else wI w 177 k)) (fun j9 hj9 => ?_) (fun _ x3 hx => ?_)
      · cases hp : p1 with
        | true =>
          rw [hp] at hj9
          refine tp_if rfl (tp_gd hib (tp_gd hib ?_))
          rw [f9 x kx]
          refine tp_stG (fun x3 e3 k3 => tp_gd hib (tp_gd hib ?_))
          have kx3 := kx.trans (k3.mono (fun q y => Or.inl y))
          rw [f9 x3 kx3]
          rw [ix_nI (by omega)] at e3 ⊢
          refine tp_stG (fun x4 e4 k4 => hj9 _ _ ⟨kx3.trans (k4.mono (fun q y => Or.inr y)), fun j hj => ⟨?_, ?_⟩, ?_, ?_⟩)
          · rw [k4.I (by decide), show wI x3 176 = wI x3 (166 + 10) from rfl, e3, up_o hj]
          · rw [show wI x4 177 = wI x4 (166 + 11) from rfl, e4, up_o hj, k3.I (by decide)]
          · rw [k4.I (by decide), show wI x3 176 = wI x3 (166 + 10) from rfl, e3, up_s, if_pos rfl]
          · rw [show wI x4 177 = wI x4 (166 + 11) from rfl, e4, up_s, if_pos rfl]
        | false =>
          rw [hp] at hj9
          exact tp_ifn (by decide) (hj9 _ _ ⟨kx, fun j _ => ⟨rfl, rfl⟩, by rw [if_neg (by decide)]; exact (h1 k (Nat.le_refl _)).1, by rw [if_neg (by decide)]; exact (h1 k (Nat.le_refl _)).2⟩)
      · obtain ⟨kx3, g1, g2, g3⟩ := hx
        refine tp_gd hib (tp_gd hib ?_)
        rw [f9 x3 kx3, ix_nI (by omega), show wI x3 (166 + 11) k = wI x3 177 k from rfl]
        have low : ∀ j, j < k → wI x3 176 j = (if p1 = true then nI (c j) - 1 else wI w 176 j) ∧ wI x3 177 j = (if p1 = true then nI (c j) - 1 else if wI w 177 j = nI (c j) - 1 then wI w 177 j else -2) := fun j hj => by
          rw [(g1 j (by omega)).1, (g1 j (by omega)).2]; exact h2 j hj
        by_cases q3 : wI x3 177 k = nI (c k) - 1
        · refine tp_if q3 (tp_lt (tp_on ⟨q, by rw [nI_s], by omega, kx3, fun j hj => ⟨by rw [(g1 j (by omega)).1]; exact (h1 j (by omega)).1, by rw [(g1 j (by omega)).2]; exact (h1 j (by omega)).2⟩, fun j hj => ?_⟩))
          by_cases y : j = k
          · subst y
            refine ⟨g2, ?_⟩
            rw [g3] at q3 ⊢
            by_cases yp : p1 = true
            · rw [if_pos yp, if_pos yp]
            · rw [if_neg yp] at q3 ⊢
              rw [if_neg yp, if_pos q3]
          · exact low j (by omega)
        · refine tp_ifn q3 (tp_gd hib (tp_stG (fun x4 e4 k4 => tp_lt (tp_on ⟨q, by rw [nI_s], by omega, kx3.trans (k4.mono (fun q y => Or.inr y)), fun j hj => ⟨by rw [k4.I (by decide), (g1 j (by omega)).1]; exact (h1 j (by omega)).1, by rw [show wI x4 177 = wI x4 (166 + 11) from rfl, e4, up_o (by omega)]; show wI x3 177 j = _; rw [(g1 j (by omega)).2]; exact (h1 j (by omega)).2⟩, fun j hj => ?_⟩))))
          rw [k4.I (by decide), show wI x4 177 = wI x4 (166 + 11) from rfl, e4]
          by_cases y : j = k
          · subst y
            rw [up_s]
            refine ⟨g2, ?_⟩
            rw [g3] at q3
            by_cases yp : p1 = true
            · rw [if_pos yp] at q3; exact absurd rfl q3
            · rw [if_neg yp] at q3 ⊢
              rw [if_neg q3]
          · rw [up_o y]; exact low j (by omega)
  · have : k = Y := by omega
    subst this
    refine tp_ifn (nnlt (Nat.le_refl _) (by omega)) ?_
    refine tp_it (fun j st x' => st = (nI (fsN (mkB c k) j), nI (j + 1)) ∧ j ≤ 6 ∧ x' = x) 6 (by omega) ⟨rfl, by omega, rfl⟩ (fun j st x' hI => ?_)
    obtain ⟨es, hj, ex⟩ := hI
    rw [es, ex]
    show tp (if nI (j + 1) < 7 then _ else _) _
    by_cases q7 : j < 6
    · refine tp_if (show nI (j + 1) < nI 7 from nlt (by omega) (by omega)) (tp_lt (tp_lt (tp_on ⟨q7, ?_, by omega, rfl⟩)))
      rw [fs_st _ hm j q7, nI_p, nI_s]
      rfl
    · have : j = 6 := by omega
      subst this
      refine tp_ifn (by decide) ?_
      rw [fs_pc _ hm]
      have hpc : pcN (mkB c k) ≤ 6 := by rw [← fs_pc _ hm]; exact fs_le _ 6
      have fin : ∀ x5, wI x5 166 29 = (if p1 = true then nI (pcN (mkB c k)) else if pcN (mkB c k) < fe then nI (pcN (mkB c k)) else nI fe) → (∀ j, ¬ j = 29 → wI x5 166 j = wI x 166 j) → Kp (fun q => q = 166) x x5 → tp (gd (ib 3 10265) (stI x5 166 28 (wI x5 (166 + 2) (ix 3)) (fun w31 => (some (.inr (.inr ()), w31) : Option (((Int32 × Int32) ⊕ ((Int32 × Int32) ⊕ Unit)) × Wd))))) (lpQ (fun s' w' => 6 < 6 ∧ s' = (nI (fsN (mkB c k) (6 + 1)), nI (6 + 1 + 1)) ∧ 6 + 1 ≤ 6 ∧ w' = x) (lpQ (fun s' w' => k < k ∧ s' = (nI (2 * mkB c (k + 1)), nI (k + 1)) ∧ k + 1 ≤ k ∧ Kp (fun q => q = 176 ∨ q = 177) w w' ∧ (∀ j, k + 1 ≤ j → wI w' 176 j = wI w 176 j ∧ wI w' 177 j = wI w 177 j) ∧ ∀ j, j < k + 1 → wI w' 176 j = (if p1 = true then nI (c j) - 1 else wI w 176 j) ∧ wI w' 177 j = (if p1 = true then nI (c j) - 1 else if wI w 177 j = nI (c j) - 1 then wI w 177 j else -2)) (fun _ w' => Kp (fun q => q = 166 ∨ q = 176 ∨ q = 177) w w' ∧ Fm (fun j => j = 28 ∨ j = 29) w w' ∧ wI w' 166 28 = nI k ∧ wI w' 166 29 = (if p1 = true then nI (pcN (mkB c k)) else if pcN (mkB c k) < fe then nI (pcN (mkB c k)) else nI fe) ∧ ∀ j, j < k → wI w' 176 j = (if p1 = true then nI (c j) - 1 else wI w 176 j) ∧ wI w' 177 j = (if p1 = true then nI (c j) - 1 else if wI w 177 j = nI (c j) - 1 then wI w 177 j else -2)))) := by
        intro x5 g29 gf k5
        refine tp_gd (by decide) ?_
        rw [show wI x5 (166 + 2) (ix 3) = nI k by rw [show wI x5 (166 + 2) = wI x 168 from k5.I (by decide)]; exact e3 x kx]
        refine tp_stG (fun x6 e6 k6 => tp_oout ⟨((kx.mono (fun q y => Or.inr y)).trans (k5.mono (fun q y => Or.inl y))).trans (k6.mono (fun q y => Or.inl y)), fun j hj => ?_, by rw [e6, up_s], by rw [e6, up_o (by decide)]; exact g29, fun j hj => ?_⟩)
        · rw [e6, up_o (by omega), gf j (by omega), kx.I (by decide)]
        · rw [k6.I (by decide), k6.I (by decide), k5.I (by decide), k5.I (by decide)]; exact h2 j hj
      cases hp : p1 with
      | true =>
        rw [hp] at fin
        refine tp_if rfl (tp_stG (fun x5 e5 k5 => fin x5 ?_ (fun j hj => by rw [e5, up_o hj]) k5))
        rw [e5, up_s, if_pos rfl]
      | false =>
        rw [hp] at fin
        have h29' : wI x 166 29 = nI fe := by rw [kx.I (by decide)]; exact h29 hp
        refine tp_ifn (by decide) ?_
        rw [h29']
        by_cases q8 : pcN (mkB c k) < fe
        · refine tp_if (nlt q8 (by omega)) (tp_stG (fun x5 e5 k5 => fin x5 ?_ (fun j hj => by rw [e5, up_o hj]) k5))
          rw [e5, up_s, if_neg (by decide), if_pos q8]
        · refine tp_ifn (nnlt (by omega) (by omega)) (fin x ?_ (fun j hj => rfl) Kp.refl)
          rw [if_neg (by decide), if_neg q8]; exact h29'
end YM
