/-! the reference's leaves over its row S -/
theorem ix_0 : ix (0 : Int32) = 0 := rfl
theorem ix_1 : ix (1 : Int32) = 1 := rfl
theorem ix_2 : ix (2 : Int32) = 2 := rfl
theorem ix_3 : ix (3 : Int32) = 3 := rfl
theorem ix_5 : ix (5 : Int32) = 5 := rfl
theorem ix_6 : ix (6 : Int32) = 6 := rfl
theorem ix_429 : ix (429 : Int32) = 429 := rfl
theorem ib_l {j n : Nat} (h : j < n) (hn : n < 2147483648) : ib (OfNat.ofNat j : Int32) n = true := ib_nI h hn
theorem gd_l {β : Type} {k : Option β} {j n : Nat} (h : j < n) (hn : n < 2147483648) : gd (ib (OfNat.ofNat j : Int32) n) k = k := gd_t (ib_nI h hn)
theorem y_isIn (x lo hi : Int32) (w : Wd) : sh_199 x lo hi w = some (decide (lo ≤ x) && decide (x ≤ hi), w) := by
  unfold sh_199 lt
  by_cases h1 : lo ≤ x <;> by_cases h2 : x ≤ hi <;> simp [h1, h2]
theorem le_pred {a : Nat} (ha : a < 2147483648) {p : Int32} (hp : 0 ≤ p) : decide (p ≤ nI a - 1) = decide (p < nI a) := by
  obtain ⟨k, hk, e⟩ := nI_ex hp
  subst e
  cases a with
  | zero => rw [decide_eq_false (nnlt (Nat.zero_le _) hk), decide_eq_false (by rw [i_le, i_nI hk]; show ¬ (k : Int) ≤ -1; omega)]
  | succ a =>
    rw [nI_pred]
    by_cases h : k ≤ a
    · rw [decide_eq_true (nle h (by omega)), decide_eq_true (nlt (by omega) ha)]
    · rw [decide_eq_false (nnle (by omega) hk), decide_eq_false (nnlt (by omega) hk)]
theorem isIn_K {S : Nat → Int32} {j a : Nat} (ha : S j = nI a) (hb : a < 2147483648) (p : Int32) (w : Wd) : sh_199 p 0 (S j - 1) w = some (isK S j p, w) := by
  rw [y_isIn, ha]
  unfold isK
  rw [ha]
  by_cases h : 0 ≤ p
  · rw [le_pred hb h]
  · rw [decide_eq_false h, Bool.false_and, Bool.false_and]
section MX
variable {S : Nat → Int32} {w : Wd} {o : Nat}
theorem y_isPerson (hF : WF S) (hS : wI w (o + 2) = S) (p : Int32) : sh_211 o p w = some (isK S 2 p, w) := by
  obtain ⟨a, ea, ha⟩ := hF.2.1
  unfold sh_211
  rw [gd_l (by decide) (by decide), hS, ix_2, cl_e (isIn_K ea (by omega) p w)]
theorem y_isWay (hF : WF S) (hS : wI w (o + 2) = S) (p : Int32) : sh_221 o p w = some (isK S 3 p, w) := by
  obtain ⟨a, ea, ha⟩ := hF.2.2.1
  unfold sh_221
  rw [gd_l (by decide) (by decide), hS, ix_3, cl_e (isIn_K ea (by omega) p w)]
theorem y_isTuft (hS : wI w (o + 2) = S) (t : Int32) : sh_216 o t w = some (isT S t, w) := by
  unfold sh_216 isT
  rw [gd_l (by decide) (by decide), gd_l (by decide) (by decide), hS, ix_0, ix_1]
  by_cases h0 : 0 ≤ t <;> by_cases h1 : zrem t 12 < S 0 <;> by_cases h2 : t / 12 < S 1 <;> simp [h0, h1, h2]
theorem y_liesOf (hS : wI w (o + 2) = S) {t k : Nat} (ht : t < 144) (hk : k < 6) : sh_213 o (nI t) (nI k) w = some (lsS S t k, w) := by
  unfold sh_213 lsS
  refine itM_acc2 (fun j => sm j (fun a => S (LI t k a))) 9 w (fun j hj => ?_) ?_ rfl (by decide)
  · show (if nI j < 9 then _ else _) = _
    rw [if_pos (jl hj (by decide)), cl_e (m_214 w ht hk hj), hS]
    simp only [lt_s_, nI_s, sm, LI]
  · show (if nI 9 < 9 then _ else _) = _
    rw [if_neg (by decide)]
theorem y_treads (hF : WF S) (hW : WR S) (hS : wI w (o + 2) = S) {t : Nat} (ht : t < 144) : sh_218 o (nI t) w = some (sm 6 (fun k => lsS S t k), w) := by
  obtain ⟨P, eP, hP⟩ := hF.2.1
  have e : sm 6 (fun k => lsS S t k) = sm P (fun k => lsS S t k) := sm_ext hP (fun k h1 h2 => sm_0 (fun a ha => hW.2.1 t k a ht h2 ha (Or.inl (by rw [eP, ix_nI (by omega)]; exact h1))))
  rw [e]
  unfold sh_218
  refine itM_acc2 (fun j => sm j (fun k => lsS S t k)) P w (fun j hj => ?_) ?_ rfl (by omega)
  · show gd (ib 2 10265) _ = _
    rw [gd_l (by decide) (by decide), hS, ix_2, eP, if_pos (nlt hj (by omega)), cl_e (y_liesOf hS ht (by omega))]
    simp only [lt_s_, nI_s, sm]
  · show gd (ib 2 10265) _ = _
    rw [gd_l (by decide) (by decide), hS, ix_2, eP, if_neg (nnlt (Nat.le_refl _) (by omega))]
theorem wt_in (hF : WF S) {k : Nat} (hk : k < ix (S 2)) : wt S k = S (7 + k) := by
  obtain ⟨P, eP, hP⟩ := hF.2.1
  unfold wt atK
  rw [eP, ix_nI (by omega)] at hk
  rw [isK_nI (by omega) eP (by omega), decide_eq_true hk, if_pos rfl, ix_nI (by omega)]
theorem y_depth (hF : WF S) (hW : WR S) (hS : wI w (o + 2) = S) {t : Nat} (ht : t < 144) : sh_217 o (nI t) w = some (depS S t, w) := by
  obtain ⟨P, eP, hP⟩ := hF.2.1
  obtain ⟨F, eF, hF1, hF9⟩ := hF.2.2.2.2.2.1
  have e : depS S t = sm P (fun k => sm F (fun a => S (LI t k a) * S (7 + k) * (S 6 - nI a))) := by
    have e1 : depS S t = sm 9 (fun a => sm 6 (fun k => S (LI t k a) * wt S k * (S 6 - nI a))) := sm_c (fun a _ => by unfold wsum; rw [← sm_mul])
    rw [e1, sm_swap, sm_ext hP (fun k h1 h2 => sm_0 (fun a ha => by
      rw [hW.2.1 t k a ht h2 ha (Or.inl (by rw [eP, ix_nI (by omega)]; exact h1)), Int32.zero_mul, Int32.zero_mul]))]
    refine sm_c (fun k hk => ?_)
    rw [sm_ext hF9 (fun a h1 h2 => by
      rw [hW.2.1 t k a ht (by omega) h2 (Or.inr (by rw [eF, ix_nI (by omega)]; exact h1)), Int32.zero_mul, Int32.zero_mul])]
    exact sm_c (fun a ha => by rw [wt_in hF (by rw [eP, ix_nI (by omega)]; exact hk)])
  rw [e]
  unfold sh_217
  refine itM_acc2 (fun j => sm j (fun k => sm F (fun a => S (LI t k a) * S (7 + k) * (S 6 - nI a)))) P w (fun j hj => ?_) ?_ rfl (by omega)
  · show gd (ib 2 10265) _ = _
    rw [gd_l (by decide) (by decide), hS, ix_2, eP, if_pos (nlt hj (by omega))]
    refine itM_acc2 (fun i => sm j (fun k => sm F (fun a => S (LI t k a) * S (7 + k) * (S 6 - nI a))) + sm i (fun a => S (LI t j a) * S (7 + j) * (S 6 - nI a))) F w (fun i hi => ?_) ?_ ?_ (by omega)
    · show gd (ib 6 10265) _ = _
      rw [gd_l (by decide) (by decide), hS, ix_6, eF, if_pos (nlt hi (by omega)), cl_e (m_214 w ht (by omega) (by omega)), l7, nI_p, gd_nI (by omega) (by decide), gd_l (by decide) (by decide), ix_nI (by omega), hS]
      simp only [lt_s_, nI_s, sm, LI, Int32.add_assoc, eF]
    · show gd (ib 6 10265) _ = _
      rw [gd_l (by decide) (by decide), hS, ix_6, eF, if_neg (nnlt (Nat.le_refl _) (by omega))]
      simp only [lt_s_, nI_s, sm]
    · show _ = (_ + 0, _)
      rw [Int32.add_zero]
      rfl
  · show gd (ib 2 10265) _ = _
    rw [gd_l (by decide) (by decide), hS, ix_2, eP, if_neg (nnlt (Nat.le_refl _) (by omega))]
theorem y_fullDepth (hF : WF S) (hW : WR S) (hS : wI w (o + 2) = S) {t : Nat} (ht : t < 144) : sh_234 o (nI t) w = some (fulS S t, w) := by
  obtain ⟨F, eF, hF1, hF9⟩ := hF.2.2.2.2.2.1
  have e : fulS S t = sm F (fun a => S (1012 + 9 * t + a) * (S 6 - nI a)) := sm_ext hF9 (fun a h1 h2 => by
    rw [hW.2.2.1 t a ht h2 (by rw [eF, ix_nI (by omega)]; exact h1), Int32.zero_mul])
  rw [e]
  unfold sh_234
  refine itM_acc2 (fun j => sm j (fun a => S (1012 + 9 * t + a) * (S 6 - nI a))) F w (fun j hj => ?_) ?_ rfl (by omega)
  · show gd (ib 6 10265) _ = _
    rw [gd_l (by decide) (by decide), hS, ix_6, eF, if_pos (nlt hj (by omega)), l1012, l9, nI_m, nI_p, nI_p, gd_nI (by omega) (by decide), gd_l (by decide) (by decide), ix_nI (by omega)]
    simp only [lt_s_, nI_s, sm, eF]
  · show gd (ib 6 10265) _ = _
    rw [gd_l (by decide) (by decide), hS, ix_6, eF, if_neg (nnlt (Nat.le_refl _) (by omega))]
/-- a door on a TUFT -/
def isD (S : Nat → Int32) (t : Int32) : Bool := decide (∃ k, k < ix (S 5) ∧ S (169 + k) = t)
theorem isD_of {S : Nat → Int32} {t : Int32} {n : Nat} (e : ix (S 5) = n) {m : Option (Bool × Wd)} (h : (∃ j, j < n ∧ decide (S (169 + j) = t) = true ∧ (∀ i, i < j → decide (S (169 + i) = t) = false) ∧ m = some (true, w)) ∨ ((∀ i, i < n → decide (S (169 + i) = t) = false) ∧ m = some (false, w))) : m = some (isD S t, w) := by
  subst e
  rcases h with ⟨j, hj, h1, -, h3⟩ | ⟨h1, h2⟩
  · rw [h3, show isD S t = true from decide_eq_true ⟨j, hj, of_decide_eq_true h1⟩]
  · rw [h2, show isD S t = false from decide_eq_false (fun ⟨k, hk, q⟩ => of_decide_eq_false (h1 k hk) q)]
theorem y_isDoor (hF : WF S) (hS : wI w (o + 2) = S) (t : Int32) : sh_219 o t w = some (isD S t, w) := by
  obtain ⟨D, eD, hD⟩ := hF.2.2.2.2.1
  refine isD_of (by rw [eD, ix_nI (by omega)]) ?_
  unfold sh_219
  refine itM_find (fun k => decide (S (169 + k) = t)) (fun _ => true) false D w (fun j hj => ?_) ?_ rfl (by omega)
  · show gd (ib 5 10265) _ = _
    rw [gd_l (by decide) (by decide), hS, ix_5, eD, if_pos (nlt hj (by omega)), l169, nI_p, gd_nI (by omega) (by decide), ix_nI (by omega)]
    by_cases h : S (169 + j) = t
    · rw [if_pos h, if_pos (decide_eq_true h)]
    · rw [if_neg h, if_neg (by rw [decide_eq_false h]; decide)]
      simp only [lt_s_, nI_s]
  · show gd (ib 5 10265) _ = _
    rw [gd_l (by decide) (by decide), hS, ix_5, eD, if_neg (nnlt (Nat.le_refl _) (by omega))]
theorem x_isDoor {h : Nat} (hF : WF S) (hR : HR S w h) (t : Int32) : sh_48 h t w = some (isD S t, w) := by
  obtain ⟨D, eD, hD⟩ := hF.2.2.2.2.1
  have e6 := hR.2.2.2.2.2.1
  have e9 := hR.2.2.2.2.2.2.2.2.2.1
  refine isD_of (by rw [eD, ix_nI (by omega)]) ?_
  rw [eD, ix_nI (by omega)] at e9
  unfold sh_48
  refine itM_find (fun k => decide (S (169 + k) = t)) (fun _ => true) false D w (fun j hj => ?_) ?_ rfl (by omega)
  · show (if nI j < wI w h 6 then _ else _) = _
    rw [e6, eD, if_pos (nlt hj (by omega)), if_pos (jl (n := 8) (by omega) (by decide)), gd_nI (by omega) (by decide), ix_nI (by omega), e9 j hj]
    by_cases h : S (169 + j) = t
    · rw [if_pos h, if_pos (decide_eq_true h)]
    · rw [if_neg h, if_neg (by rw [decide_eq_false h]; decide)]
      simp only [lt_s_, nI_s]
  · show (if nI D < wI w h 6 then _ else _) = _
    rw [e6, eD, if_neg (nnlt (Nat.le_refl _) (by omega))]
end MX
