/-! treads: a person walks along a WAY -/
def dbS (a b : Int32) : Int32 := if b = a - 12 then 0 else if b = a + 1 then 1 else if b = a + 12 then 2 else 3
def tN (S : Nat → Int32) (k i : Nat) : Nat := ix (S (183 + 41 * k + i))
def dirS (S : Nat → Int32) (k i : Nat) : Int32 := if lenN S k = 1 then 0 else if i + 1 < lenN S k then dbS (S (183 + 41 * k + i)) (S (183 + 41 * k + (i + 1))) else dbS (S (183 + 41 * k + (i - 1))) (S (183 + 41 * k + i))
def trodS (S : Nat → Int32) (t p : Nat) (sole dir : Int32) : Nat → Int32 := up (up (up (up (up (up S (LI t p 0) (S (LI t p 0) + 1)) (1012 + 9 * t) (S (1012 + 9 * t) + S (7 + p))) (436 + 4 * t) (nI (p + 1))) (437 + 4 * t) sole) (438 + 4 * t) dir) (439 + 4 * t) (S 429)
def walkS (S : Nat → Int32) (p k : Nat) (sole : Int32) (n : Nat) : Nat → Int32 := fo (fun i T => trodS T (tN S k i) p sole (dirS S k i)) n S
def goesS (S : Nat → Int32) (p k : Nat) (sole : Int32) : Nat → Int32 := up (walkS S p k sole (lenN S k)) (430 + p) (walkS S p k sole (lenN S k) (430 + p) + 1)
section TR
variable {S : Nat → Int32} {t p : Nat} {sole dir : Int32}
theorem trod_low (ht : t < 144) (hp : p < 6) {j : Nat} (hj : j < 436) : trodS S t p sole dir j = S j := by
  unfold trodS LI
  rw [up_o (by omega), up_o (by omega), up_o (by omega), up_o (by omega), up_o (by omega), up_o (by omega)]
theorem trod_high (ht : t < 144) (hp : p < 6) {j : Nat} (hj : 10084 ≤ j) : trodS S t p sole dir j = S j := by
  unfold trodS LI
  rw [up_o (by omega), up_o (by omega), up_o (by omega), up_o (by omega), up_o (by omega), up_o (by omega)]
theorem trod_top (ht : t < 144) (hp : p < 6) {t' q : Nat} (ht' : t' < 144) (hq : q < 4) (h : ¬ t' = t) : trodS S t p sole dir (436 + 4 * t' + q) = S (436 + 4 * t' + q) := by
  unfold trodS LI
  rw [up_o (by omega), up_o (by omega), up_o (by omega), up_o (by omega), up_o (by omega), up_o (by omega)]
theorem trod_top0 : trodS S t p sole dir (436 + 4 * t) = nI (p + 1) := by
  unfold trodS
  rw [up_o (by omega), up_o (by omega), up_o (by omega), up_s]
theorem trod_top1 : trodS S t p sole dir (437 + 4 * t) = sole := by
  unfold trodS
  rw [up_o (by omega), up_o (by omega), up_s]
theorem trod_top2 : trodS S t p sole dir (438 + 4 * t) = dir := by
  unfold trodS
  rw [up_o (by omega), up_s]
theorem trod_top3 : trodS S t p sole dir (439 + 4 * t) = S 429 := up_s
theorem trod_full (ht : t < 144) (hp : p < 6) {t' a : Nat} (ht' : t' < 144) (ha : a < 9) : trodS S t p sole dir (1012 + 9 * t' + a) = S (1012 + 9 * t' + a) + (if t' = t ∧ a = 0 then S (7 + p) else 0) := by
  unfold trodS LI
  rw [up_o (by omega), up_o (by omega), up_o (by omega), up_o (by omega)]
  by_cases h : t' = t ∧ a = 0
  · obtain ⟨h1, h2⟩ := h
    subst h1; subst h2
    rw [if_pos ⟨rfl, rfl⟩]
    show up _ (1012 + 9 * t') _ (1012 + 9 * t') = S (1012 + 9 * t') + S (7 + p)
    rw [up_s]
  · rw [if_neg h, up_o (by omega), up_o (by omega), Int32.add_zero]
theorem trod_lies (ht : t < 144) (hp : p < 6) {t' k a : Nat} (ht' : t' < 144) (hk : k < 6) (ha : a < 9) : trodS S t p sole dir (LI t' k a) = S (LI t' k a) + (if t' = t ∧ k = p ∧ a = 0 then 1 else 0) := by
  unfold trodS LI
  rw [up_o (by omega), up_o (by omega), up_o (by omega), up_o (by omega), up_o (by omega)]
  by_cases h : t' = t ∧ k = p ∧ a = 0
  · obtain ⟨h1, h2, h3⟩ := h
    subst h1; subst h2; subst h3
    rw [if_pos ⟨rfl, rfl, rfl⟩, up_s]
  · rw [if_neg h, up_o (by omega), Int32.add_zero]
theorem wt_low {T : Nat → Int32} (h : ∀ j, j < 429 → T j = S j) (k : Nat) (hk : k < 6) : wt T k = wt S k := by
  unfold wt atK isK
  rw [h 2 (by omega), ix_nI (by omega), h (7 + k) (by omega)]
theorem wsum_c {T : Nat → Int32} (h : ∀ j, j < 429 → T j = S j) {t a : Nat} (hl : ∀ k, k < 6 → T (LI t k a) = S (LI t k a)) : wsum T t a = wsum S t a := sm_c (fun k hk => by rw [hl k hk, wt_low h k hk])
theorem trod_wsum (hF : WF S) (ht : t < 144) (hp : p < ix (S 2)) {t' a : Nat} (ht' : t' < 144) (ha : a < 9) : wsum (trodS S t p sole dir) t' a = wsum S t' a + (if t' = t ∧ a = 0 then S (7 + p) else 0) := by
  have hp6 := hF.p6 hp
  have hl : ∀ j, j < 429 → trodS S t p sole dir j = S j := fun j hj => trod_low ht hp6 (by omega)
  by_cases h : t' = t ∧ a = 0
  · rw [if_pos h]
    unfold wsum
    refine sm_up hp6 (fun i hi hn => ?_) ?_
    · rw [wt_low hl i hi, trod_lies ht hp6 ht' hi ha, if_neg (fun q => hn q.2.1), Int32.add_zero]
    · rw [wt_low hl p hp6, trod_lies ht hp6 ht' hp6 ha, if_pos ⟨h.1, rfl, h.2⟩, Int32.add_mul, Int32.one_mul, wt_in hF hp]
  · rw [if_neg h, Int32.add_zero]
    exact wsum_c hl (fun k hk => by rw [trod_lies ht hp6 ht' hk ha, if_neg (fun q => h ⟨q.1, q.2.2⟩), Int32.add_zero])
theorem WR.trod (hF : WF S) (hW : WR S) (ht : t < 144) (hp : p < ix (S 2)) : WR (trodS S t p sole dir) := by
  have hp6 := hF.p6 hp
  obtain ⟨F, eF, hF1, hF9⟩ := hF.2.2.2.2.2.1
  obtain ⟨⟨d, ed, hd⟩, h2, h3, h4, h5⟩ := hW
  have e2 : trodS S t p sole dir 2 = S 2 := trod_low ht hp6 (by omega)
  have e6 : trodS S t p sole dir 6 = S 6 := trod_low ht hp6 (by omega)
  have e429 : trodS S t p sole dir 429 = S 429 := trod_low ht hp6 (by omega)
  unfold WR
  rw [e2, e6, e429]
  refine ⟨⟨d, ed, hd⟩, fun t' k a ht' hk ha h => ?_, fun t' a ht' ha h => ?_, fun t' ht' h k a hk ha => ?_, fun t' ht' h => ?_⟩
  · rw [trod_lies ht hp6 ht' hk ha, if_neg, Int32.add_zero]
    · exact h2 t' k a ht' hk ha h
    · rintro ⟨q1, q2, q3⟩
      subst q2; subst q3
      rw [eF, ix_nI (by omega)] at h
      omega
  · rw [trod_full ht hp6 ht' ha, if_neg, Int32.add_zero]
    · exact h3 t' a ht' ha h
    · rintro ⟨q1, q2⟩
      subst q2
      rw [eF, ix_nI (by omega)] at h
      omega
  · by_cases q : t' = t
    · subst q
      rw [trod_top0] at h
      exact absurd h (nI_ne0 (by omega) (by omega))
    · have e := trod_top (sole := sole) (dir := dir) (S := S) ht hp6 ht' (q := 0) (by omega) q
      rw [Nat.add_zero] at e
      rw [e] at h
      rw [trod_lies ht hp6 ht' hk ha, if_neg (fun z => q z.1), Int32.add_zero]
      exact h4 t' ht' h k a hk ha
  · by_cases q : t' = t
    · subst q
      refine ⟨0, Nat.zero_le _, by rw [eF, ix_nI (by omega)]; omega, by rw [trod_top3, ed, ix_nI (by omega)]; rfl, fun k a hk _ ha => by omega⟩
    · have e := trod_top (sole := sole) (dir := dir) (S := S) ht hp6 ht' (q := 0) (by omega) q
      have e3 := trod_top (sole := sole) (dir := dir) (S := S) ht hp6 ht' (q := 3) (by omega) q
      rw [Nat.add_zero] at e
      rw [show 436 + 4 * t' + 3 = 439 + 4 * t' by omega] at e3
      rw [e] at h
      obtain ⟨g, g1, g2, g3, g4⟩ := h5 t' ht' h
      refine ⟨g, g1, g2, by rw [e3]; exact g3, fun k a hk ha9 ha => ?_⟩
      rw [trod_lies ht hp6 ht' hk ha9, if_neg (fun z => q z.1), Int32.add_zero]
      exact g4 k a hk ha9 ha
/-- what the class stores for one tread -/
def trodW (w : Wd) (r i t p : Nat) (sole dir : Int32) : Wd := sI (sI (sI (sI (sI w (r + 1) i (wI w (r + 1) i + 1)) (r + 3) t (nI p)) (r + 4) t sole) (r + 5) t dir) (r + 6) t (wI w r 0)
theorem RR.trod {w : Wd} {r : Nat} (hF : WF S) (hW : WR S) (hr : RR S w r) (ht : t < 144) (hp : p < ix (S 2)) : RR (trodS S t p sole dir) (trodW w r (PI (ix (S 429) % 9) t p) t p sole dir) r := by
  have hp6 := hF.p6 hp
  obtain ⟨⟨d, ed, hd⟩, -⟩ := hW
  obtain ⟨h1, h2, h3, h4, h5⟩ := hr
  have e429 : trodS S t p sole dir 429 = S 429 := trod_low ht hp6 (by omega)
  unfold RR
  rw [e429]
  have r0 : wI (trodW w r (PI (ix (S 429) % 9) t p) t p sole dir) r = wI w r := by unfold trodW; rw [wI_row (by omega), wI_row (by omega), wI_row (by omega), wI_row (by omega), wI_row (by omega)]
  have r1 : wI (trodW w r (PI (ix (S 429) % 9) t p) t p sole dir) (r + 1) = up (wI w (r + 1)) (PI (ix (S 429) % 9) t p) (wI w (r + 1) (PI (ix (S 429) % 9) t p) + 1) := by unfold trodW; rw [wI_row (by omega), wI_row (by omega), wI_row (by omega), wI_row (by omega), wI_up]
  have r2 : wI (trodW w r (PI (ix (S 429) % 9) t p) t p sole dir) (r + 2) = wI w (r + 2) := by unfold trodW; rw [wI_row (by omega), wI_row (by omega), wI_row (by omega), wI_row (by omega), wI_row (by omega)]
  have r3 : wI (trodW w r (PI (ix (S 429) % 9) t p) t p sole dir) (r + 3) = up (wI w (r + 3)) t (nI p) := by unfold trodW; rw [wI_row (by omega), wI_row (by omega), wI_row (by omega), wI_up, wI_row (by omega)]
  have r4 : wI (trodW w r (PI (ix (S 429) % 9) t p) t p sole dir) (r + 4) = up (wI w (r + 4)) t sole := by unfold trodW; rw [wI_row (by omega), wI_row (by omega), wI_up, wI_row (by omega), wI_row (by omega)]
  have r5 : wI (trodW w r (PI (ix (S 429) % 9) t p) t p sole dir) (r + 5) = up (wI w (r + 5)) t dir := by unfold trodW; rw [wI_row (by omega), wI_up, wI_row (by omega), wI_row (by omega), wI_row (by omega)]
  have r6 : wI (trodW w r (PI (ix (S 429) % 9) t p) t p sole dir) (r + 6) = up (wI w (r + 6)) t (wI w r 0) := by unfold trodW; rw [wI_up, wI_row (by omega), wI_row (by omega), wI_row (by omega), wI_row (by omega)]
  have r7 : wI (trodW w r (PI (ix (S 429) % 9) t p) t p sole dir) (r + 7) = wI w (r + 7) := by unfold trodW; rw [wI_row (by omega), wI_row (by omega), wI_row (by omega), wI_row (by omega), wI_row (by omega)]
  rw [r0, r1, r2, r3, r4, r5, r6, r7]
  refine ⟨h1, fun k hk => by rw [trod_low ht hp6 (by omega)]; exact h2 k hk, fun t' k a ht' hk ha => ?_, fun t' a ht' ha => ?_, fun t' ht' => ?_⟩
  · rw [trod_lies ht hp6 ht' hk ha, ← h3 t' k a ht' hk ha]
    have hs : sl (ix (S 429)) 0 = ix (S 429) % 9 := by unfold sl; omega
    have hs1 := sl_lt (d := ix (S 429)) (a := a)
    by_cases q : t' = t ∧ k = p ∧ a = 0
    · obtain ⟨q1, q2, q3⟩ := q
      subst q1; subst q2; subst q3
      rw [if_pos ⟨rfl, rfl, rfl⟩, hs, up_s]
    · rw [if_neg q, up_o, Int32.add_zero]
      unfold PI
      intro z
      have h9 : ix (S 429) % 9 < 9 := Nat.mod_lt _ (by decide)
      have e1 : sl (ix (S 429)) a = ix (S 429) % 9 := by omega
      rw [← hs] at e1
      have := sl_inj ha (by decide) e1
      exact q ⟨by omega, by omega, this⟩
  · rw [trod_full ht hp6 ht' ha, trod_wsum hF ht hp ht' ha, h4 t' a ht' ha]
    have key : ∀ x y z : Int32, x - y = (x + z) - (y + z) := fun x y z => by
      simp only [Int32.sub_eq_add_neg, Int32.neg_add]
      rw [show x + z + (-y + -z) = x + -y + (z + -z) by ac_rfl, ← Int32.sub_eq_add_neg z z, Int32.sub_self, Int32.add_zero]
    exact key _ _ _
  · by_cases q : t' = t
    · subst q
      right
      refine ⟨p, hp6, trod_top0, up_s, by rw [trod_top1, up_s], by rw [trod_top2, up_s], by rw [trod_top3, up_s, h1]⟩
    · have e0 := trod_top (sole := sole) (dir := dir) (S := S) ht hp6 ht' (q := 0) (by omega) q
      have e1 := trod_top (sole := sole) (dir := dir) (S := S) ht hp6 ht' (q := 1) (by omega) q
      have e2 := trod_top (sole := sole) (dir := dir) (S := S) ht hp6 ht' (q := 2) (by omega) q
      have e3 := trod_top (sole := sole) (dir := dir) (S := S) ht hp6 ht' (q := 3) (by omega) q
      rw [Nat.add_zero] at e0
      rw [show 436 + 4 * t' + 1 = 437 + 4 * t' by omega] at e1
      rw [show 436 + 4 * t' + 2 = 438 + 4 * t' by omega] at e2
      rw [show 436 + 4 * t' + 3 = 439 + 4 * t' by omega] at e3
      rw [e0, e1, e2, e3, up_o q, up_o q, up_o q, up_o q]
      exact h5 t' ht'
end TR
