/-! THE RUG: the object r holds the rug's part of a row S: 429 the day, 430 + k walks, 436 + 4 t .. ON TOP (0: nothing; person + 1, SOLE, DIR, day), 1012 + 9 t + a full, LI t k a: treads by age -/
def LI (t k a : Nat) : Nat := 2308 + (6 * t + k) * 9 + a
def PI (s t k : Nat) : Nat := (s * 144 + t) * 6 + k
def wt (S : Nat → Int32) (k : Nat) : Int32 := atK S 2 7 0 (nI k)
def wsum (S : Nat → Int32) (t a : Nat) : Int32 := sm 6 (fun k => S (LI t k a) * wt S k)
def RR (S : Nat → Int32) (w : Wd) (r : Nat) : Prop :=
  wI w r 0 = S 429 ∧ (∀ k, k < 6 → wI w (r + 7) k = S (430 + k)) ∧
  (∀ t k a, t < 144 → k < 6 → a < 9 → wI w (r + 1) (PI (sl (ix (S 429)) a) t k) = S (LI t k a)) ∧
  (∀ t a, t < 144 → a < 9 → wI w (r + 2) (sl (ix (S 429)) a * 144 + t) = S (1012 + 9 * t + a) - wsum S t a) ∧
  (∀ t, t < 144 → (S (436 + 4 * t) = 0 ∧ wI w (r + 3) t = -1) ∨ ∃ p, p < 6 ∧ S (436 + 4 * t) = nI (p + 1) ∧ wI w (r + 3) t = nI p ∧ wI w (r + 4) t = S (437 + 4 * t) ∧ wI w (r + 5) t = S (438 + 4 * t) ∧ wI w (r + 6) t = S (439 + 4 * t))
def WR (S : Nat → Int32) : Prop :=
  (∃ d, S 429 = nI d ∧ d ≤ 999) ∧
  (∀ t k a, t < 144 → k < 6 → a < 9 → (ix (S 2) ≤ k ∨ ix (S 6) ≤ a) → S (LI t k a) = 0) ∧
  (∀ t a, t < 144 → a < 9 → ix (S 6) ≤ a → S (1012 + 9 * t + a) = 0) ∧
  (∀ t, t < 144 → S (436 + 4 * t) = 0 → ∀ k a, k < 6 → a < 9 → S (LI t k a) = 0) ∧
  (∀ t, t < 144 → (∃ p, p < 6 ∧ S (436 + 4 * t) = nI (p + 1)) → ∃ g, g ≤ ix (S 429) ∧ g < ix (S 6) ∧ S (439 + 4 * t) = nI (ix (S 429) - g) ∧ ∀ k a, k < 6 → a < 9 → a < g → S (LI t k a) = 0)
/-- something lies there -/
def lyS (S : Nat → Int32) (t : Nat) : Bool := decide (0 < S (436 + 4 * t))
/-- how many treads of k lie on t -/
def lsS (S : Nat → Int32) (t k : Nat) : Int32 := sm 9 (fun a => S (LI t k a))
def depS (S : Nat → Int32) (t : Nat) : Int32 := sm 9 (fun a => wsum S t a * (S 6 - nI a))
def fulS (S : Nat → Int32) (t : Nat) : Int32 := sm 9 (fun a => S (1012 + 9 * t + a) * (S 6 - nI a))
section RX
variable {S : Nat → Int32} {w : Wd} {r o : Nat}
theorem x_lies (hr : RR S w r) {t : Nat} (ht : t < 144) : sh_87 r (nI t) w = some (lyS S t, w) := by
  unfold sh_87 lyS
  rw [cl_e (x_77 w ht), if_pos rfl, gd_nI ht (by decide), ix_nI (by omega)]
  rcases hr.2.2.2.2 t ht with ⟨h1, h2⟩ | ⟨p, hp, h1, h2, -⟩
  · rw [h1, h2, if_pos rfl]; rfl
  · rw [h1, h2, if_neg (by rw [i_eq, i_nI (by omega)]; show ¬ (p : Int) = -1; omega), decide_eq_true (jp (by omega) (by omega))]
theorem x_printsByOn (hr : RR S w r) {t k : Nat} (ht : t < 144) (hk : k < 6) : sh_171 r (nI k) (nI t) w = some (lsS S t k, w) := by
  unfold sh_171
  rw [cl_e (x_75 w hk), if_pos rfl, cl_e (x_77 w ht), if_pos rfl]
  have e : lsS S t k = sm 9 (fun s => wI w (r + 1) (PI s t k)) := by
    rw [sm_sl (ix (S 429)) (fun s => wI w (r + 1) (PI s t k))]
    exact sm_c (fun a ha => (hr.2.2.1 t k a ht hk ha).symm)
  rw [e]
  refine itM_acc2 (fun j => sm j (fun s => wI w (r + 1) (PI s t k))) 9 w (fun j hj => ?_) ?_ rfl (by decide)
  · show (if nI j < 9 then _ else _) = _
    rw [if_pos (jl hj (by decide)), cl_e (x_78 j t k w), gd_nI (by omega) (by decide), ix_nI (by omega)]
    show some (_, w) = _
    rw [nI_s]
    rfl
  · show (if nI 9 < 9 then _ else _) = _
    rw [if_neg (by decide)]
theorem x_printsBy_o (p : Int32) (hp : ∀ k, k < 6 → ¬ p = nI k) (t : Int32) : sh_171 r p t w = some (0, w) := by
  have e : sh_75 p w = some (false, w) := by
    unfold sh_75 lt
    by_cases h0 : 0 ≤ p
    · obtain ⟨k, hk, ek⟩ := nI_ex h0
      subst ek
      rw [if_pos h0, if_neg (jnl (by by_cases q : 6 ≤ k; exact q; exact absurd rfl (hp k (by omega))) hk)]
    · rw [if_neg h0]
  unfold sh_171
  rw [cl_e e]
  rfl
theorem x_printsOn (hr : RR S w r) {t : Nat} (ht : t < 144) : sh_182 r (nI t) w = some (sm 6 (fun k => lsS S t k), w) := by
  unfold sh_182
  refine itM_acc2 (fun j => sm j (fun k => lsS S t k)) 6 w (fun j hj => ?_) ?_ rfl (by decide)
  · show (if nI j < 6 then _ else _) = _
    rw [if_pos (jl hj (by decide)), cl_e (x_printsByOn hr ht hj)]
    show some (_, w) = _
    rw [nI_s]
    rfl
  · show (if nI 6 < 6 then _ else _) = _
    rw [if_neg (by decide)]
theorem x_printsBy (hr : RR S w r) {k : Nat} (hk : k < 6) : sh_173 r (nI k) w = some (sm 144 (fun t => lsS S t k), w) := by
  unfold sh_173
  refine itM_acc2 (fun j => sm j (fun t => lsS S t k)) 144 w (fun j hj => ?_) ?_ rfl (by decide)
  · show (if nI j < 144 then _ else _) = _
    rw [if_pos (jl hj (by decide)), cl_e (x_printsByOn hr hj hk)]
    show some (_, w) = _
    rw [nI_s]
    rfl
  · show (if nI 144 < 144 then _ else _) = _
    rw [if_neg (by decide)]
theorem x_tuftsTrodBy (hr : RR S w r) {k : Nat} (hk : k < 6) : sh_174 r (nI k) w = some (sm 144 (fun t => bi (decide (0 < lsS S t k))), w) := by
  unfold sh_174
  refine itM_acc2 (fun j => sm j (fun t => bi (decide (0 < lsS S t k)))) 144 w (fun j hj => ?_) ?_ rfl (by decide)
  · show (if nI j < 144 then _ else _) = _
    rw [if_pos (jl hj (by decide)), cl_e (x_printsByOn hr hj hk)]
    by_cases h : 0 < lsS S j k
    · rw [if_pos h]
      simp only [lt_s_, nI_s, sm, decide_eq_true h, bi]
    · rw [if_neg h]
      simp only [lt_s_, nI_s, sm, decide_eq_false h, bi, Int32.add_zero]
  · show (if nI 144 < 144 then _ else _) = _
    rw [if_neg (by decide)]
theorem x_walksOf (hr : RR S w r) {k : Nat} (hk : k < 6) : sh_157 r (nI k) w = some (S (430 + k), w) := by
  unfold sh_157
  rw [cl_e (x_75 w hk), if_pos rfl, gd_nI hk (by decide), ix_nI (by omega), hr.2.1 k hk]
theorem x_soleOn (hr : RR S w r) {t : Nat} (ht : t < 144) : sh_100 r (nI t) w = some (if lyS S t = true then S (437 + 4 * t) else -1, w) := by
  unfold sh_100
  rw [cl_e (x_lies hr ht), gd_nI ht (by decide), ix_nI (by omega)]
  rcases hr.2.2.2.2 t ht with ⟨h1, h2⟩ | ⟨p, hp, h1, h2, h3, -⟩
  · have e : lyS S t = false := by unfold lyS; rw [h1]; rfl
    rw [e]; rfl
  · rw [h3]
    cases lyS S t <;> rfl
theorem x_weightOn (hF : WF S) (hR : HR S w o) {s t : Nat} (ht : t < 144) (hs : s < 9) : sh_88 r o (nI s) (nI t) w = some (sm 6 (fun k => wI w (r + 1) (PI s t k) * wt S k), w) := by
  unfold sh_88
  refine itM_acc2 (fun j => sm j (fun k => wI w (r + 1) (PI s t k) * wt S k)) 6 w (fun j hj => ?_) ?_ rfl (by decide)
  · show (if nI j < 6 then _ else _) = _
    rw [if_pos (jl hj (by decide)), cl_e (x_78 s t j w), gd_nI (by omega) (by decide), ix_nI (by omega), cl_e (x_weightOf hF hR (nI j))]
    show some (_, w) = _
    rw [nI_s]
    rfl
  · show (if nI 6 < 6 then _ else _) = _
    rw [if_neg (by decide)]
theorem x_daysLeft (hW : WR S) (hR : HR S w o) (hr : RR S w r) {s : Nat} (hs : s < 9) : sh_97 r o (nI s) w = some (S 6 - nI (sl (ix (S 429)) s), w) := by
  obtain ⟨d, ed, hd⟩ := hW.1
  unfold sh_97
  rw [cl_e (x_fadeDays hR), hr.1, ed, cl_e (x_fm9 w (by omega) (by omega)), ix_nI (by omega)]
  rfl
theorem x_depthOn (hF : WF S) (hW : WR S) (hR : HR S w o) (hr : RR S w r) {t : Nat} (ht : t < 144) : sh_102 r o (nI t) w = some (depS S t, w) := by
  unfold sh_102
  rw [cl_e (x_lies hr ht)]
  by_cases h : lyS S t = true
  · rw [if_pos h]
    have e : depS S t = sm 9 (fun s => sm 6 (fun k => wI w (r + 1) (PI s t k) * wt S k) * (S 6 - nI (sl (ix (S 429)) s))) := by
      rw [sm_sl (ix (S 429)) (fun s => sm 6 (fun k => wI w (r + 1) (PI s t k) * wt S k) * (S 6 - nI (sl (ix (S 429)) s)))]
      refine sm_c (fun a ha => ?_)
      rw [sl_sl ha, show wsum S t a = sm 6 (fun k => wI w (r + 1) (PI (sl (ix (S 429)) a) t k) * wt S k) from sm_c (fun k hk => by rw [hr.2.2.1 t k a ht hk ha])]
    rw [e]
    refine itM_acc2 (fun j => sm j (fun s => sm 6 (fun k => wI w (r + 1) (PI s t k) * wt S k) * (S 6 - nI (sl (ix (S 429)) s)))) 9 w (fun j hj => ?_) ?_ rfl (by decide)
    · show (if nI j < 9 then _ else _) = _
      rw [if_pos (jl hj (by decide)), cl_e (x_weightOn hF hR ht hj), cl_e (x_daysLeft hW hR hr hj)]
      show some (_, w) = _
      rw [nI_s]
      rfl
    · show (if nI 9 < 9 then _ else _) = _
      rw [if_neg (by decide)]
  · rw [if_neg h]
    have h0 : S (436 + 4 * t) = 0 := by
      rcases hr.2.2.2.2 t ht with ⟨h1, -⟩ | ⟨p, hp, h1, -⟩
      · exact h1
      · exact absurd (by unfold lyS; rw [h1]; exact decide_eq_true (jp (by omega) (by omega))) h
    have e : depS S t = 0 := sm_0 (fun a ha => by
      rw [show wsum S t a = 0 from sm_0 (fun k hk => by rw [hW.2.2.2.1 t ht h0 k a hk ha, Int32.zero_mul]), Int32.zero_mul])
    rw [e]
theorem x_lostOn (hF : WF S) (hW : WR S) (hR : HR S w o) (hr : RR S w r) {t : Nat} (ht : t < 144) : sh_96 r o (nI t) w = some (fulS S t - depS S t, w) := by
  unfold sh_96
  rw [cl_e (x_77 w ht), if_pos rfl]
  have e : fulS S t - depS S t = sm 9 (fun s => wI w (r + 2) (s * 144 + t) * (S 6 - nI (sl (ix (S 429)) s))) := by
    rw [sm_sl (ix (S 429)) (fun s => wI w (r + 2) (s * 144 + t) * (S 6 - nI (sl (ix (S 429)) s)))]
    unfold fulS depS
    rw [← sm_sub]
    refine sm_c (fun a ha => ?_)
    rw [sl_sl ha, hr.2.2.2.1 t a ht ha, Int32.sub_mul]
  rw [e]
  refine itM_acc2 (fun j => sm j (fun s => wI w (r + 2) (s * 144 + t) * (S 6 - nI (sl (ix (S 429)) s)))) 9 w (fun j hj => ?_) ?_ rfl (by decide)
  · show (if nI j < 9 then _ else _) = _
    rw [if_pos (jl hj (by decide)), l144, nI_m, nI_p, gd_nI (by omega) (by decide), ix_nI (by omega), cl_e (x_daysLeft hW hR hr hj)]
    show some (_, w) = _
    rw [nI_s]
    rfl
  · show (if nI 9 < 9 then _ else _) = _
    rw [if_neg (by decide)]
end RX
