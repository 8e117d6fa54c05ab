/-! readings(), the reference, whole -/
def rdA (b : Nat → Nat) (t : Nat) : Nat := 12 * b (4 * t + 1) + b (4 * t)
def rdO (S : Nat → Int32) (b : Nat → Nat) (t : Nat) : Prop := nI (b (4 * t)) < S 0 ∧ nI (b (4 * t + 1)) < S 1 ∧ (b (4 * t + 3) ≤ 9 ∨ b (4 * t + 3) = 255)
def rdOk (S : Nat → Int32) (n : Nat) (b : Nat → Nat) : Prop := n % 4 = 0 ∧ 1 ≤ n / 4 ∧ n / 4 ≤ 8 ∧ ∀ t, t < n / 4 → rdO S b t
def rmF (j : Nat) : Prop := j = 0 ∨ (2 ≤ j ∧ j ≤ 5) ∨ j = 28 ∨ j = 29
section YX
variable {S : Nat → Int32} {w w' : Wd} {n T Y P B e fe : Nat} {b c A : Nat → Nat}
/-- how often the WAYS go over a told TUFT -/
theorem y_rdTreads {α1 : Type} {v x : Wd} {t : Nat} {A1 : Int32 → Wd → Prop} {Q : α1 → Wd → Prop} (hF : WF S) (hS : wI v 168 = S) (hY : S 3 = nI Y) (hY6 : Y ≤ 6) (ht : t < T) (hT : T ≤ 8) (hb : ∀ p, p < 4 * T → wI v 167 p &&& 255 = nI (b p) ∧ b p < 256) (kx : Kp (fun q => q = 174) v x) (hlow : ∀ t', t' < t → ∀ k, k < 6 → wI x 174 (6 * t' + k) = nI (rdP S (rdA b) k t')) (fin : ∀ y, Kp (fun q => q = 174) v y → (∀ t', t' < t + 1 → ∀ k, k < 6 → wI y 174 (6 * t' + k) = nI (rdP S (rdA b) k t')) → A1 (nI (4 * (t + 1))) y) : tp (itM (fun (v3_23 : Int32) (w25 : Wd) => if v3_23 < 6 then (itM (fun (s46 : Int32 × Int32) (w30 : Wd) => match s46 with | (v4_27, v5_28) => gd (ib (177 + v3_23) 10265) (if v5_28 < wI w30 (166 + 2) (ix (177 + v3_23)) then (gd (ib 3 10265) (if v3_23 < wI w30 (166 + 2) (ix 3) then (gd (ib ((183 + (41 * v3_23)) + v5_28) 10265) (cl (sh_242 166 (nI (4 * t) + 1) w30) (fun r34 w33 => cl (sh_242 166 (nI (4 * t)) w33) (fun r36 w35 => lt (if wI w30 (166 + 2) (ix ((183 + (41 * v3_23)) + v5_28)) = (12 * r34) + r36 then true else false : Bool) (fun z37 => lt (v4_27 + (bi z37) : Int32) (fun v4_38 => lt (v5_28 + 1 : Int32) (fun v5_39 => some (.inl (v4_38, v5_39), w35)))))))) else (gd (ib ((6 * (nI (4 * t) / 4)) + v3_23) 48) (stI w30 (166 + 8) (ix ((6 * (nI (4 * t) / 4)) + v3_23)) v4_27 (fun w42 => lt (v3_23 + 1 : Int32) (fun v3_43 => some (.inr (.inl v3_43), w42))))))) else (gd (ib ((6 * (nI (4 * t) / 4)) + v3_23) 48) (stI w30 (166 + 8) (ix ((6 * (nI (4 * t) / 4)) + v3_23)) v4_27 (fun w44 => lt (v3_23 + 1 : Int32) (fun v3_45 => some (.inr (.inl v3_45), w44))))))) FU (0, 0) w25) else (lt (nI (4 * t) + 4 : Int32) (fun v2_47 => (some (.inr (.inl v2_47), w25) : Option ((Int32 ⊕ (Int32 ⊕ α1)) × Wd))))) FU 0 x) (lpQ A1 Q) := by
  have e4t : nI (4 * t) / 4 = nI t := by rw [show (4 : Int32) = nI 4 from rfl, nI_div (by omega) (by decide) (by decide), show 4 * t / 4 = t by omega]
  have l6 : ∀ k, (6 : Int32) * nI t + nI k = nI (6 * t + k) := fun k => by rw [show (6 : Int32) * nI t = nI (6 * t) from nI_m (a := 6), nI_p]
  rw [e4t]
  have bA := hb (4 * t) (by omega)
  have bB := hb (4 * t + 1) (by omega)
  refine tp_it (fun k st y => st = nI k ∧ k ≤ 6 ∧ Kp (fun q => q = 174) v y ∧ (∀ t', t' < t → ∀ k, k < 6 → wI y 174 (6 * t' + k) = nI (rdP S (rdA b) k t')) ∧ ∀ k', k' < k → wI y 174 (6 * t + k') = nI (rdP S (rdA b) k' t)) 6 (by omega) ⟨rfl, by omega, kx, hlow, fun k' h => by omega⟩ (fun k st y hI => ?_)
  obtain ⟨es, hk, ky, h1, h2⟩ := hI
  rw [es]
  have hSy : wI y (166 + 2) = S := by rw [show wI y (166 + 2) = wI v 168 from ky.I (by decide)]; exact hS
  by_cases q : k < 6
  · refine tp_if (show nI k < nI 6 from nlt q (by omega)) ?_
    have hl := lenN_le hF k
    have hib : ib (6 * nI t + nI k) 48 = true := by rw [l6]; exact ib_nI (by omega) (by decide)
    have store : ∀ (cv : Nat) (Q1 : Int32 × Int32 → Wd → Prop), cv = rdP S (rdA b) k t → tp (gd (ib (6 * nI t + nI k) 48) (stI y (166 + 8) (ix (6 * nI t + nI k)) (nI cv) (fun w42 => lt (nI k + 1 : Int32) (fun v3_43 => (some (.inr (.inl v3_43), w42) : Option (((Int32 × Int32) ⊕ (Int32 ⊕ (Int32 ⊕ α1))) × Wd)))))) (lpQ Q1 (lpQ (fun s' w' => k < 6 ∧ s' = nI (k + 1) ∧ k + 1 ≤ 6 ∧ Kp (fun q => q = 174) v w' ∧ (∀ t', t' < t → ∀ k, k < 6 → wI w' 174 (6 * t' + k) = nI (rdP S (rdA b) k t')) ∧ ∀ k', k' < k + 1 → wI w' 174 (6 * t + k') = nI (rdP S (rdA b) k' t)) (lpQ A1 Q))) := by
      intro cv Q1 ecv
      refine tp_gd hib (tp_stG (fun y2 e2 k2 => tp_lt (tp_oin ⟨q, nI_s k, by omega, ky.trans k2, fun t' ht' k' hk' => ?_, fun k' hk' => ?_⟩)))
      · rw [l6, ix_nI (by omega)] at e2
        rw [show wI y2 174 = wI y2 (166 + 8) from rfl, e2, up_o (by omega)]
        exact h1 t' ht' k' hk'
      · rw [l6, ix_nI (by omega)] at e2
        rw [show wI y2 174 = wI y2 (166 + 8) from rfl, e2]
        by_cases z : k' = k
        · rw [z, up_s, ecv]
        · rw [up_o (by omega)]; exact h2 k' (by omega)
    refine tp_it (fun i st z => st = (nI (cntN (fun i => decide (S (183 + 41 * k + i) = nI (rdA b t))) i), nI i) ∧ z = y ∧ i ≤ lenN S k) 41 (by omega) ⟨rfl, rfl, Nat.zero_le _⟩ (fun i st z hI => ?_)
    obtain ⟨es, ez, hi⟩ := hI
    rw [es, ez]
    show tp (gd (ib (177 + nI k) 10265) _) _
    rw [show (177 : Int32) + nI k = nI (177 + k) from nI_p 177 k, ix_nI (by omega), hSy]
    refine tp_gd (ib_nI (by omega) (by decide)) ?_
    by_cases qk : k < Y
    · obtain ⟨L, eL, hL1, hL2, eL2, -⟩ := hF.ways (k := k) (by rw [hY, ix_nI (by omega)]; exact qk)
      rw [eL2] at hi
      rw [eL]
      by_cases qi : i < L
      · have l183 : (183 : Int32) + 41 * nI k + nI i = nI (183 + 41 * k + i) := by rw [show (41 : Int32) * nI k = nI (41 * k) from nI_m (a := 41), show (183 : Int32) + nI (41 * k) = nI (183 + 41 * k) from nI_p 183 _, nI_p]
        refine tp_if (nlt qi (by omega)) (tp_gd (by decide) ?_)
        rw [show S (ix 3) = nI Y from hY, l183, nI_s]
        refine tp_if (nlt qk (by omega)) (tp_gd (ib_nI (by omega) (by decide)) (tp_ce (y_octet (by omega) (by rw [ky.I (by decide)]; exact bB.1)) (tp_ce (y_octet (by omega) (by rw [ky.I (by decide)]; exact bA.1)) ?_)))
        rw [ix_nI (by omega), show (12 : Int32) * nI (b (4 * t + 1)) + nI (b (4 * t)) = nI (rdA b t) by rw [show (12 : Int32) * nI (b (4 * t + 1)) = nI (12 * b (4 * t + 1)) from nI_m (a := 12), nI_p]; rfl]
        have ec : cntN (fun i => decide (S (183 + 41 * k + i) = nI (rdA b t))) (i + 1) = cntN (fun i => decide (S (183 + 41 * k + i) = nI (rdA b t))) i + (if decide (S (183 + 41 * k + i) = nI (rdA b t)) = true then 1 else 0) := rfl
        by_cases qe : S (183 + 41 * k + i) = nI (rdA b t)
        · rw [if_pos (decide_eq_true qe)] at ec
          refine tp_ltv (if_pos qe) (tp_lt (tp_lt (tp_on ⟨by omega, ?_, rfl, by omega⟩)))
          rw [ec, nI_s]
          exact Prod.ext (nI_s _) rfl
        · rw [if_neg (by rw [decide_eq_false qe]; decide)] at ec
          refine tp_ltv (if_neg qe) (tp_lt (tp_lt (tp_on ⟨by omega, ?_, rfl, by omega⟩)))
          rw [ec, nI_s]
          exact Prod.ext (nI_p _ 0) rfl
      · have : i = L := by omega
        refine tp_ifn (nnlt (by omega) (by omega)) (store _ _ ?_)
        show _ = cntN _ (lenN S k)
        rw [this, eL2]
    · have l0 : lenN S k = 0 := if_neg (by rw [hY, ix_nI (by omega)]; exact qk)
      have i0 : i = 0 := by omega
      subst i0
      have e0 : cntN (fun i => decide (S (183 + 41 * k + i) = nI (rdA b t))) 0 = rdP S (rdA b) k t := by
        show 0 = cntN _ (lenN S k)
        rw [l0]
        rfl
      by_cases qs : nI 0 < S (177 + k)
      · refine tp_if qs (tp_gd (by decide) ?_)
        rw [show S (ix 3) = nI Y from hY]
        exact tp_ifn (nnlt (by omega) (by omega)) (store _ _ e0)
      · exact tp_ifn qs (store _ _ e0)
  · have : k = 6 := by omega
    subst this
    refine tp_ifn (by decide) (tp_lt (tp_oin ?_))
    rw [show nI (4 * t) + 4 = nI (4 * t + 4) from nI_p _ 4, show 4 * t + 4 = 4 * (t + 1) by omega]
    refine fin y ky (fun t' ht' k' hk' => ?_)
    by_cases z : t' = t
    · rw [z]; exact h2 k' hk'
    · exact h1 t' (by omega) k' hk'
end YX
