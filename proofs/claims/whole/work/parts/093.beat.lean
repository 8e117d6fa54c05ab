/-! beating one TUFT; rugs copied; keep, undo -/
theorem tp_upr {S α : Type} {m : Option (α × Wd)} {A : S → Wd → Prop} {Q : α → Wd → Prop} (h : tp m Q) : tp (upr (S := S) m) (lpQ A Q) := by
  obtain ⟨r, w', e, h⟩ := h
  subst e
  exact ⟨_, _, rfl, h⟩
/-- the first n of one row, the rest of another one -/
def cpN {α : Type} (f g : Nat → α) (n : Nat) : Nat → α := fun k => if k < n then f k else g k
theorem cpN_i {α : Type} {f g : Nat → α} {n k : Nat} (h : k < n) : cpN f g n k = f k := if_pos h
theorem va_cpN {α : Type} (f g : Nat → α) (n : Nat) : va_cpy f g 0 0 n = cpN f g n := by
  funext k
  unfold va_cpy cpN
  by_cases h : k < n
  · rw [if_pos ⟨Nat.zero_le _, by omega⟩, if_pos h, show 0 + (k - 0) = k by omega]
  · rw [if_neg (by omega), if_neg h]
theorem tp_cpI {α : Type} {Q : α → Wd → Prop} {w : Wd} {o q lo lq : Nat} {n : Nat} {f : Wd → Option (α × Wd)} (hn : n < 2147483648) (h1 : n ≤ lo) (h2 : n ≤ lq) (k : tp (f (rI w q (cpN (wI w o) (wI w q) n))) Q) : tp (cpI w o lo 0 q lq 0 (nI n) f) Q := by
  unfold cpI
  rw [if_pos ⟨by decide, by decide, n0le hn, by rw [ix_nI hn, ix_0]; omega, by rw [ix_nI hn, ix_0]; omega⟩, ix_nI hn, ix_0, va_cpN]
  exact k
theorem tp_cpL {α : Type} {Q : α → Wd → Prop} {w : Wd} {o q lo lq : Nat} {n : Nat} {f : Wd → Option (α × Wd)} (hn : n < 2147483648) (h1 : n ≤ lo) (h2 : n ≤ lq) (k : tp (f (rL w q (cpN (wL w o) (wL w q) n))) Q) : tp (cpL w o lo 0 q lq 0 (nI n) f) Q := by
  unfold cpL
  rw [if_pos ⟨by decide, by decide, n0le hn, by rw [ix_nI hn, ix_0]; omega, by rw [ix_nI hn, ix_0]; omega⟩, ix_nI hn, ix_0, va_cpN]
  exact k
theorem kp0 {P : Nat → Prop} {w : Wd} {k j : Nat} {v : Int32} (h : P k) : Kp P w (sI w k j v) := Kp.sI (P := P) Kp.refl h j v
section BT
variable {S T : Nat → Int32} {w : Wd} {h r o : Nat}
theorem RR.cong {T : Nat → Int32} (h : RR S w r) (he : ∀ j, j < 10084 → T j = S j) : RR T w r := by
  obtain ⟨h1, h2, h3, h4, h5⟩ := h
  unfold RR
  rw [he 429 (by omega)]
  refine ⟨h1, fun k hk => by rw [he _ (by omega)]; exact h2 k hk, fun t k a ht hk ha => by rw [he _ (by unfold LI; omega)]; exact h3 t k a ht hk ha, fun t a ht ha => ?_, fun t ht => ?_⟩
  · rw [he _ (by omega), wsum_c (fun j hj => he j (by omega)) (fun k hk => he _ (by unfold LI; omega))]
    exact h4 t a ht ha
  · rw [he _ (by omega), he _ (by omega), he _ (by omega), he _ (by omega)]
    exact h5 t ht
theorem RR.kp {w' : Wd} {P : Nat → Prop} (h : RR S w r) (hk : Kp P w w') (hP : ∀ q, r ≤ q → q ≤ r + 7 → ¬ P q) : RR S w' r := by
  unfold RR
  rw [hk.I (hP r (by omega) (by omega)), hk.I (hP (r + 1) (by omega) (by omega)), hk.I (hP (r + 2) (by omega) (by omega)), hk.I (hP (r + 3) (by omega) (by omega)), hk.I (hP (r + 4) (by omega) (by omega)), hk.I (hP (r + 5) (by omega) (by omega)), hk.I (hP (r + 6) (by omega) (by omega)), hk.I (hP (r + 7) (by omega) (by omega))]
  exact h
/-- a TUFT beaten -/
def beaS (S : Nat → Int32) (t : Nat) : Nat → Int32 := clrS (clrS S (436 + 4 * t) 4) (2308 + 54 * t) 54
theorem bea_lo {t j : Nat} (ht : t < 144) (hj : j < 436 ∨ 1012 ≤ j ∧ j < 2308 ∨ 10084 ≤ j) : beaS S t j = S j := by
  unfold beaS clrS
  rw [if_neg (by omega), if_neg (by omega)]
theorem bea_top {t t' q : Nat} (ht : t < 144) (ht' : t' < 144) (hq : q < 4) : beaS S t (436 + 4 * t' + q) = if t' = t then 0 else S (436 + 4 * t' + q) := by
  unfold beaS clrS
  rw [if_neg (by omega)]
  by_cases h : t' = t
  · rw [if_pos h, if_pos (by omega)]
  · rw [if_neg h, if_neg (by omega)]
theorem bea_LI {t t' k a : Nat} (ht : t < 144) (ht' : t' < 144) (hk : k < 6) (ha : a < 9) : beaS S t (LI t' k a) = if t' = t then 0 else S (LI t' k a) := by
  unfold beaS clrS LI
  by_cases h : t' = t
  · rw [if_pos h, if_pos (by omega)]
  · rw [if_neg h, if_neg (by omega), if_neg (by omega)]
theorem bea_wsum {t t' a : Nat} (ht : t < 144) (ht' : t' < 144) (ha : a < 9) : wsum (beaS S t) t' a = if t' = t then 0 else wsum S t' a := by
  by_cases h : t' = t
  · rw [if_pos h]
    exact sm_0 (fun k hk => by rw [bea_LI ht ht' hk ha, if_pos h, Int32.zero_mul])
  · rw [if_neg h]
    exact wsum_c (fun j hj => bea_lo ht (by omega)) (fun k hk => by rw [bea_LI ht ht' hk ha, if_neg h])
theorem WR.bea {t : Nat} (hW : WR S) (ht : t < 144) : WR (beaS S t) := by
  obtain ⟨w1, w2, w3, w4, w5⟩ := hW
  unfold WR
  rw [bea_lo ht (j := 2) (by omega), bea_lo ht (j := 6) (by omega), bea_lo ht (j := 429) (by omega)]
  refine ⟨w1, fun t' k a ht' hk ha q => ?_, fun t' a ht' ha q => ?_, fun t' ht' q k a hk ha => ?_, fun t' ht' q => ?_⟩
  · rw [bea_LI ht ht' hk ha, w2 t' k a ht' hk ha q]; split <;> rfl
  · rw [bea_lo ht (by omega)]; exact w3 t' a ht' ha q
  · rw [bea_LI ht ht' hk ha]
    by_cases h : t' = t
    · rw [if_pos h]
    · rw [if_neg h]
      have e := bea_top (S := S) ht ht' (q := 0) (by decide)
      rw [Nat.add_zero, if_neg h] at e
      rw [e] at q
      exact w4 t' ht' q k a hk ha
  · have e := bea_top (S := S) ht ht' (q := 0) (by decide)
    have e3 := bea_top (S := S) ht ht' (q := 3) (by decide)
    rw [Nat.add_zero] at e
    rw [show 436 + 4 * t' + 3 = 439 + 4 * t' by omega] at e3
    by_cases h : t' = t
    · rw [if_pos h] at e
      obtain ⟨p, hp, q⟩ := q
      rw [e] at q
      exact absurd q.symm (nI_ne0 (by omega) (by omega))
    · rw [if_neg h] at e e3
      rw [e] at q
      obtain ⟨g, g1, g2, g3, g4⟩ := w5 t' ht' q
      refine ⟨g, g1, g2, by rw [e3]; exact g3, fun k a hk ha9 ha => ?_⟩
      rw [bea_LI ht ht' hk ha9, if_neg h]
      exact g4 k a hk ha9 ha
theorem RR.bea0 {t : Nat} (hW : WR S) (hr : RR S w r) (ht : t < 144) (h0 : lyS S t = false) : RR (beaS S t) w r := by
  obtain ⟨r1, r2, r3, r4, r5⟩ := hr
  have hz : S (436 + 4 * t) = 0 := by
    rcases r5 t ht with ⟨h1, -⟩ | ⟨p, hp, h1, -⟩
    · exact h1
    · unfold lyS at h0
      rw [h1] at h0
      exact absurd (jp (by omega) (by omega)) (of_decide_eq_false h0)
  unfold RR
  rw [bea_lo ht (j := 429) (by omega)]
  refine ⟨r1, fun k hk => by rw [bea_lo ht (by omega)]; exact r2 k hk, fun t' k a ht' hk ha => ?_, fun t' a ht' ha => ?_, fun t' ht' => ?_⟩
  · rw [bea_LI ht ht' hk ha, r3 t' k a ht' hk ha]
    by_cases h : t' = t
    · subst h; rw [if_pos rfl, hW.2.2.2.1 t' ht' hz k a hk ha]
    · rw [if_neg h]
  · rw [bea_lo ht (by omega), bea_wsum ht ht' ha, r4 t' a ht' ha]
    by_cases h : t' = t
    · subst h
      rw [if_pos rfl, show wsum S t' a = 0 from sm_0 (fun k hk => by rw [hW.2.2.2.1 t' ht' hz k a hk ha, Int32.zero_mul])]
    · rw [if_neg h]
  · have e0 := bea_top (S := S) ht ht' (q := 0) (by decide)
    have e1 := bea_top (S := S) ht ht' (q := 1) (by decide)
    have e2 := bea_top (S := S) ht ht' (q := 2) (by decide)
    have e3 := bea_top (S := S) ht ht' (q := 3) (by decide)
    rw [Nat.add_zero] at e0
    rw [show 436 + 4 * t' + 1 = 437 + 4 * t' by omega] at e1
    rw [show 436 + 4 * t' + 2 = 438 + 4 * t' by omega] at e2
    rw [show 436 + 4 * t' + 3 = 439 + 4 * t' by omega] at e3
    by_cases h : t' = t
    · subst h
      left
      rcases r5 t' ht' with ⟨h1, h2⟩ | ⟨p, hp, h1, -⟩
      · exact ⟨by rw [e0, if_pos rfl], h2⟩
      · rw [hz] at h1
        exact absurd h1.symm (nI_ne0 (by omega) (by omega))
    · rw [e0, e1, e2, e3, if_neg h, if_neg h, if_neg h, if_neg h]
      exact r5 t' ht'
theorem RR.bea1 {w' : Wd} {t : Nat} (hr : RR S w r) (ht : t < 144) (g0 : wI w' r 0 = wI w r 0) (g1 : ∀ s t' k, s < 9 → t' < 144 → k < 6 → wI w' (r + 1) (PI s t' k) = if t' = t then 0 else wI w (r + 1) (PI s t' k)) (g2 : ∀ s t', s < 9 → t' < 144 → wI w' (r + 2) (s * 144 + t') = if t' = t then wI w (r + 2) (s * 144 + t') + sm 6 (fun k => wI w (r + 1) (PI s t k) * wt S k) else wI w (r + 2) (s * 144 + t')) (g3 : wI w' (r + 3) = up (wI w (r + 3)) t (-1)) (g4 : wI w' (r + 4) = wI w (r + 4)) (g5 : wI w' (r + 5) = wI w (r + 5)) (g6 : wI w' (r + 6) = wI w (r + 6)) (g7 : wI w' (r + 7) = wI w (r + 7)) : RR (beaS S t) w' r := by
  obtain ⟨r1, r2, r3, r4, r5⟩ := hr
  unfold RR
  rw [bea_lo ht (j := 429) (by omega), g0, g3, g4, g5, g6, g7]
  refine ⟨r1, fun k hk => by rw [bea_lo ht (by omega)]; exact r2 k hk, fun t' k a ht' hk ha => ?_, fun t' a ht' ha => ?_, fun t' ht' => ?_⟩
  · rw [bea_LI ht ht' hk ha, g1 _ _ _ sl_lt ht' hk, r3 t' k a ht' hk ha]
  · rw [bea_lo ht (by omega), bea_wsum ht ht' ha, g2 _ _ sl_lt ht', r4 t' a ht' ha]
    by_cases h : t' = t
    · subst h
      rw [if_pos rfl, if_pos rfl, show sm 6 (fun k => wI w (r + 1) (PI (sl (ix (S 429)) a) t' k) * wt S k) = wsum S t' a from sm_c (fun k hk => by rw [r3 t' k a ht' hk ha])]
      rw [Int32.sub_add_cancel]
      exact (Int32.sub_zero _).symm
    · rw [if_neg h, if_neg h]
  · have e0 := bea_top (S := S) ht ht' (q := 0) (by decide)
    have e1 := bea_top (S := S) ht ht' (q := 1) (by decide)
    have e2 := bea_top (S := S) ht ht' (q := 2) (by decide)
    have e3 := bea_top (S := S) ht ht' (q := 3) (by decide)
    rw [Nat.add_zero] at e0
    rw [show 436 + 4 * t' + 1 = 437 + 4 * t' by omega] at e1
    rw [show 436 + 4 * t' + 2 = 438 + 4 * t' by omega] at e2
    rw [show 436 + 4 * t' + 3 = 439 + 4 * t' by omega] at e3
    by_cases h : t' = t
    · subst h
      left
      exact ⟨by rw [e0, if_pos rfl], up_s⟩
    · rw [e0, e1, e2, e3, if_neg h, if_neg h, if_neg h, if_neg h, up_o h]
      exact r5 t' ht'
theorem x_beatOne (hF : WF S) (hW : WR S) (hR : HR S w h) (hr : RR S w r) (hh : h + 9 < r) {t : Nat} (ht : t < 144) : tp (sh_86 r h (nI t) w) (fun v w' => v = lyS S t ∧ RR (beaS S t) w' r ∧ Kp (fun q => r ≤ q ∧ q ≤ r + 7) w w') := by
  unfold sh_86
  refine tp_ce (x_lies hr ht) (tp_ite (fun hl => ?_) (fun hl => ?_))
  · refine tp_it (fun j s w' => s = nI j ∧ j ≤ 9 ∧ wI w' r 0 = wI w r 0 ∧ (∀ s t' k, s < 9 → t' < 144 → k < 6 → wI w' (r + 1) (PI s t' k) = if t' = t ∧ s < j then 0 else wI w (r + 1) (PI s t' k)) ∧ (∀ s t', s < 9 → t' < 144 → wI w' (r + 2) (s * 144 + t') = if t' = t ∧ s < j then wI w (r + 2) (s * 144 + t') + sm 6 (fun k => wI w (r + 1) (PI s t k) * wt S k) else wI w (r + 2) (s * 144 + t')) ∧ wI w' (r + 3) = wI w (r + 3) ∧ wI w' (r + 4) = wI w (r + 4) ∧ wI w' (r + 5) = wI w (r + 5) ∧ wI w' (r + 6) = wI w (r + 6) ∧ wI w' (r + 7) = wI w (r + 7) ∧ Kp (fun q => r ≤ q ∧ q ≤ r + 7) w w') 9 (by omega) ⟨rfl, Nat.zero_le _, rfl, fun s t' k _ _ _ => by rw [if_neg (by omega)], fun s t' _ _ => by rw [if_neg (by omega)], rfl, rfl, rfl, rfl, rfl, Kp.refl⟩ (fun j s w' hI => ?_)
    obtain ⟨e, hj, g0, g1, g2, g3, g4, g5, g6, g7, hK⟩ := hI
    subst e
    refine tp_ite (fun hlt => ?_) (fun hlt => ?_)
    · have hj9 : j < 9 := (nlt_i (by omega) (by decide)).mp (show nI j < nI 9 from hlt)
      rw [l144, nI_m, nI_p, ix_nI (by omega)]
      refine tp_gd (ib_nI (by omega) (by decide)) (tp_ce (x_weightOn hF (hR.kp hK (fun q a b c => by omega)) ht hj9) (tp_gd (ib_nI (by omega) (by decide)) (tp_stI ?_)))
      have ew : sm 6 (fun k => wI w' (r + 1) (PI j t k) * wt S k) = sm 6 (fun k => wI w (r + 1) (PI j t k) * wt S k) := sm_c (fun k hk => by rw [g1 j t k hj9 ht hk, if_neg (by omega)])
      have ev : wI w' (r + 2) (j * 144 + t) = wI w (r + 2) (j * 144 + t) := by rw [g2 j t hj9 ht, if_neg (by omega)]
      rw [ew, ev]
      have g2' : ∀ s t', s < 9 → t' < 144 → up (wI w' (r + 2)) (j * 144 + t) (wI w (r + 2) (j * 144 + t) + sm 6 (fun k => wI w (r + 1) (PI j t k) * wt S k)) (s * 144 + t') = if t' = t ∧ s < j + 1 then wI w (r + 2) (s * 144 + t') + sm 6 (fun k => wI w (r + 1) (PI s t k) * wt S k) else wI w (r + 2) (s * 144 + t') := by
        intro s t' hs ht'
        by_cases q : t' = t ∧ s = j
        · obtain ⟨q1, q2⟩ := q
          subst q1; subst q2
          rw [up_s, if_pos ⟨rfl, by omega⟩]
        · rw [up_o (by omega), g2 s t' hs ht']
          by_cases q2 : t' = t ∧ s < j
          · rw [if_pos q2, if_pos ⟨q2.1, by omega⟩]
          · rw [if_neg q2, if_neg (by omega)]
      refine tp_it (fun i s w' => s = nI i ∧ i ≤ 6 ∧ wI w' r 0 = wI w r 0 ∧ (∀ s t' k, s < 9 → t' < 144 → k < 6 → wI w' (r + 1) (PI s t' k) = if t' = t ∧ (s < j ∨ s = j ∧ k < i) then 0 else wI w (r + 1) (PI s t' k)) ∧ (∀ s t', s < 9 → t' < 144 → wI w' (r + 2) (s * 144 + t') = if t' = t ∧ s < j + 1 then wI w (r + 2) (s * 144 + t') + sm 6 (fun k => wI w (r + 1) (PI s t k) * wt S k) else wI w (r + 2) (s * 144 + t')) ∧ wI w' (r + 3) = wI w (r + 3) ∧ wI w' (r + 4) = wI w (r + 4) ∧ wI w' (r + 5) = wI w (r + 5) ∧ wI w' (r + 6) = wI w (r + 6) ∧ wI w' (r + 7) = wI w (r + 7) ∧ Kp (fun q => r ≤ q ∧ q ≤ r + 7) w w') 6 (by omega) ⟨rfl, Nat.zero_le _, ?_, ?_, ?_, ?_, ?_, ?_, ?_, ?_, hK.sI (by omega) _ _⟩ (fun i s w' hI => ?_)
      · rw [wI_row (by omega)]; exact g0
      · intro s t' k hs ht' hk
        rw [wI_row (by omega), g1 s t' k hs ht' hk]
        by_cases q : t' = t ∧ s < j
        · rw [if_pos q, if_pos ⟨q.1, Or.inl q.2⟩]
        · rw [if_neg q, if_neg (by omega)]
      · intro s t' hs ht'
        rw [wI_up]; exact g2' s t' hs ht'
      · rw [wI_row (by omega)]; exact g3
      · rw [wI_row (by omega)]; exact g4
      · rw [wI_row (by omega)]; exact g5
      · rw [wI_row (by omega)]; exact g6
      · rw [wI_row (by omega)]; exact g7
      clear g0 g1 g2 g3 g4 g5 g6 g7 hK ew ev g2'
      obtain ⟨e, hi, g0, g1, g2, g3, g4, g5, g6, g7, hK⟩ := hI
      subst e
      refine tp_ite (fun hlt => ?_) (fun hlt => ?_)
      · have hi6 : i < 6 := (nlt_i (by omega) (by decide)).mp (show nI i < nI 6 from hlt)
        refine tp_ce (x_78 _ _ _ _) (tp_gd (ib_nI (by omega) (by decide)) (tp_stI (tp_lt ?_)))
        rw [ix_nI (by omega), nI_s]
        refine tp_on ⟨hi6, rfl, by omega, by rw [wI_row (by omega)]; exact g0, fun s t' k hs ht' hk => ?_, by rw [wI_row (by omega)]; exact g2, by rw [wI_row (by omega)]; exact g3, by rw [wI_row (by omega)]; exact g4, by rw [wI_row (by omega)]; exact g5, by rw [wI_row (by omega)]; exact g6, by rw [wI_row (by omega)]; exact g7, hK.sI (by omega) _ _⟩
        rw [wI_up]
        by_cases q : t' = t ∧ s = j ∧ k = i
        · obtain ⟨q1, q2, q3⟩ := q
          subst q1; subst q2; subst q3
          rw [show PI s t' k = (s * 144 + t') * 6 + k from rfl, up_s, if_pos ⟨rfl, Or.inr ⟨rfl, by omega⟩⟩]
        · rw [up_o (by unfold PI; omega), g1 s t' k hs ht' hk]
          by_cases q2 : t' = t ∧ (s < j ∨ s = j ∧ k < i)
          · rw [if_pos q2, if_pos (by omega)]
          · rw [if_neg q2, if_neg (by omega)]
      · have hi6 : i = 6 := by
          by_cases q : i < 6
          · exact absurd (nlt q (by decide) : nI i < nI 6) hlt
          · omega
        subst hi6
        refine tp_lt ?_
        rw [nI_s]
        refine tp_oin ⟨hj9, rfl, by omega, g0, fun s t' k hs ht' hk => ?_, g2, g3, g4, g5, g6, g7, hK⟩
        rw [g1 s t' k hs ht' hk]
        by_cases q2 : t' = t ∧ s < j + 1
        · rw [if_pos q2, if_pos (by omega)]
        · rw [if_neg q2, if_neg (by omega)]
    · have hj9 : j = 9 := by
        by_cases q : j < 9
        · exact absurd (nlt q (by decide) : nI j < nI 9) hlt
        · omega
      subst hj9
      rw [ix_nI (by omega)]
      refine tp_gd (ib_nI ht (by decide)) (tp_stI (tp_out ⟨hl.symm, hr.bea1 ht ?_ ?_ ?_ ?_ ?_ ?_ ?_ ?_, hK.sI (by omega) _ _⟩))
      · rw [wI_row (by omega)]; exact g0
      · intro s t' k hs ht' hk
        rw [wI_row (by omega), g1 s t' k hs ht' hk]
        by_cases q : t' = t
        · rw [if_pos q, if_pos ⟨q, hs⟩]
        · rw [if_neg q, if_neg (fun z => q z.1)]
      · intro s t' hs ht'
        rw [wI_row (by omega), g2 s t' hs ht']
        by_cases q : t' = t
        · rw [if_pos q, if_pos ⟨q, hs⟩]
        · rw [if_neg q, if_neg (fun z => q z.1)]
      · rw [wI_up, g3]
      · rw [wI_row (by omega)]; exact g4
      · rw [wI_row (by omega)]; exact g5
      · rw [wI_row (by omega)]; exact g6
      · rw [wI_row (by omega)]; exact g7
  · have hf : lyS S t = false := by simpa using hl
    exact tp_some ⟨hf.symm, hr.bea0 hW ht hf, Kp.refl⟩
theorem y_beats (hS : wI w (o + 2) = S) {t : Nat} (ht : t < 144) : tp (sh_232 o (nI t) w) (fun v w' => v = bi (lyS S t) ∧ wI w' (o + 2) = beaS S t ∧ Kp (fun q => q = o + 2) w w') := by
  unfold sh_232
  rw [l436, l4, l2308, l54, nI_m, nI_p, nI_m, nI_p, ix_nI (by omega), hS]
  refine tp_gd (ib_nI (by omega) (by decide)) (tp_lt (tp_cl (y_clears (n := 4) (by omega) hS) (fun _ w2 h2 => tp_cl (y_clears (n := 54) (by omega) h2.1) (fun _ w3 h3 => tp_some ⟨?_, h3.1, h2.2.trans h3.2⟩))))
  rw [ite_b]; rfl
/-! rugs copied -/
theorem x_copyRug {r0 r1 : Nat} (hr : RR S w r1) (hd : r0 + 7 < r1 ∨ r1 + 7 < r0) : tp (sh_72 r0 r1 w) (fun _ w' => RR S w' r0 ∧ Kp (fun q => r0 ≤ q ∧ q ≤ r0 + 7) w w') := by
  unfold sh_72
  refine tp_stI (tp_cpI (n := 7776) (by decide) (by decide) (by decide) (tp_cpI (n := 1296) (by decide) (by decide) (by decide) (tp_cpI (n := 144) (by decide) (by decide) (by decide) (tp_cpI (n := 144) (by decide) (by decide) (by decide) (tp_cpI (n := 144) (by decide) (by decide) (by decide) (tp_cpI (n := 144) (by decide) (by decide) (by decide) (tp_cpI (n := 6) (by decide) (by decide) (by decide) (tp_some ⟨?_, ?_⟩))))))))
  · obtain ⟨h1, h2, h3, h4, h5⟩ := hr
    unfold RR
    simp (disch := omega) only [wI_rr, wI_rrow, wI_row, wI_same]
    refine ⟨h1, fun k hk => by rw [cpN_i hk]; exact h2 k hk, fun t k a ht hk ha => ?_, fun t a ht ha => ?_, fun t ht => ?_⟩
    · have := sl_lt (d := ix (S 429)) (a := a)
      rw [cpN_i (by unfold PI; omega)]; exact h3 t k a ht hk ha
    · have := sl_lt (d := ix (S 429)) (a := a)
      rw [cpN_i (by omega)]; exact h4 t a ht ha
    · rw [cpN_i ht, cpN_i ht, cpN_i ht, cpN_i ht]; exact h5 t ht
  · exact (((((((Kp.refl.sI (by omega) _ _).rI (by omega) _).rI (by omega) _).rI (by omega) _).rI (by omega) _).rI (by omega) _).rI (by omega) _).rI (by omega) _
/-! keep, undo: us holds the rows kept, n of them -/
def XU (us : Nat → Nat → Int32) (n : Nat) (w : Wd) : Prop := n ≤ 6 ∧ ∃ o, o < 6 ∧ wI w 0 9 = nI n ∧ wI w 0 8 = nI o ∧ ∀ m, m < n → RR (us m) w (74 + 8 * ((o + m) % 6))
def MU (us : Nat → Nat → Int32) (n : Nat) (w : Wd) : Prop := wI w 166 23 = nI n ∧ ∀ m, m < n → ∀ j, j < 9655 → wI w 173 (9655 * m + j) = us m (429 + j)
def kepU (us : Nat → Nat → Int32) (n : Nat) (S : Nat → Int32) : Nat → Nat → Int32 := fun m => if n = 6 then (if m < 5 then us (m + 1) else S) else if m = n then S else us m
def kepN (n : Nat) : Nat := if n = 6 then 6 else n + 1
def undP (q : Nat) : Prop := q = 0 ∨ 74 ≤ q ∧ q ≤ 121
theorem XU.kp {us : Nat → Nat → Int32} {n : Nat} {w w' : Wd} {P : Nat → Prop} (h : XU us n w) (hk : Kp P w w') (hP : ∀ q, undP q → ¬ P q) : XU us n w' := by
  obtain ⟨hn, o, ho, h1, h2, h3⟩ := h
  refine ⟨hn, o, ho, by rw [hk.I (hP 0 (Or.inl rfl))]; exact h1, by rw [hk.I (hP 0 (Or.inl rfl))]; exact h2, fun m hm => (h3 m hm).kp hk (fun q a b => hP q (Or.inr ⟨by omega, ?_⟩))⟩
  have : (o + m) % 6 < 6 := Nat.mod_lt _ (by decide)
  omega
theorem x_keep {us : Nat → Nat → Int32} {n : Nat} (hr : RR S w 35) (hU : XU us n w) : tp (sh_70 0 w) (fun _ w' => XU (kepU us n S) (kepN n) w' ∧ Kp undP w w') := by
  obtain ⟨hn, o, ho, e9, e8, hm⟩ := hU
  have fin : ∀ (w1 : Wd) (o m : Nat), o < 6 → m < 6 → wI w1 0 9 = nI m → wI w1 0 8 = nI o → RR S w1 35 → Kp undP w w1 → (∀ i, i < m → RR (kepU us n S i) w1 (74 + 8 * ((o + i) % 6))) → kepU us n S m = S → kepN n = m + 1 → tp (cl (sh_71 ((wI w1 0 8) + (wI w1 0 9)) 6 w1) (fun r4 w3 => gd (ib r4 6) (cl (sh_72 (74 + 8 * ix r4) (0 + 35) w3) (fun _ w6 => stI w6 0 9 ((wI w6 0 9) + 1) (fun w8 => some ((), w8)))))) (fun _ w' => XU (kepU us n S) (kepN n) w' ∧ Kp undP w w') := by
    intro w1 o m ho hm6 e9 e8 hr hK hus hS hN
    have hlt : (o + m) % 6 < 6 := Nat.mod_lt _ (by decide)
    rw [e8, e9, nI_p, l6]
    refine tp_ce (x_fm (m := 6) w1 (by omega) (by decide) (by decide)) (tp_gd (ib_nI hlt (by decide)) ?_)
    rw [ix_nI (by omega), Nat.zero_add]
    refine tp_cl (x_copyRug hr (by omega)) (fun _ w6 h6 => tp_stI (tp_some ⟨?_, (hK.trans (h6.2.mono (fun q hq => Or.inr (by omega)))).sI (Or.inl rfl) _ _⟩))
    have k0 : Kp (fun q => q = 0) w6 (sI w6 0 9 (wI w6 0 9 + 1)) := kp0 rfl
    have e96 : wI w6 0 9 = nI m := by rw [h6.2.I (by omega)]; exact e9
    refine ⟨by omega, o, ho, by rw [wI_same, e96, nI_s, hN], by rw [wI_other (by decide), h6.2.I (by omega)]; exact e8, fun i hi => ?_⟩
    have hilt : (o + i) % 6 < 6 := Nat.mod_lt _ (by decide)
    refine RR.kp (P := fun q => q = 0) ?_ k0 (fun q a b => by omega)
    by_cases q : i = m
    · subst q
      rw [hS]; exact h6.1
    · exact (hus i (by omega)).kp h6.2 (fun q a b => by
        have : ¬ (o + i) % 6 = (o + m) % 6 := by omega
        omega)
  unfold sh_70
  refine tp_jn (tp_ite (fun h6 => ?_) (fun h6 => ?_))
  · have hn6 : n = 6 := by
      rw [e9] at h6
      exact (nI_eq (by omega) (by decide)).mp (show nI n = nI 6 from h6)
    subst hn6
    rw [e8, nI_s, l6, nI_rem (by omega) (by decide) (by decide)]
    refine tp_stI (tp_stI ?_)
    rw [wI_other (by decide), e9, l1, pk_sub (by decide)]
    have k0 : Kp undP w (sI (sI w 0 8 (nI ((o + 1) % 6))) 0 9 (nI (6 - 1))) := (kp0 (P := undP) (Or.inl rfl)).trans (kp0 (Or.inl rfl))
    have k1 : Kp (fun q => q = 0) w (sI (sI w 0 8 (nI ((o + 1) % 6))) 0 9 (nI (6 - 1))) := (kp0 (P := fun q => q = 0) rfl).trans (kp0 rfl)
    refine fin _ ((o + 1) % 6) 5 (Nat.mod_lt _ (by decide)) (by decide) wI_same (by rw [wI_other (by decide), wI_same]) (hr.kp k1 (fun q a b => by omega)) k0 (fun i hi => ?_) ?_ ?_
    · have hlt : (o + 1 + i) % 6 < 6 := Nat.mod_lt _ (by decide)
      have e : ((o + 1) % 6 + i) % 6 = (o + (i + 1)) % 6 := by omega
      rw [e]
      unfold kepU
      rw [if_pos rfl, if_pos hi]
      exact (hm (i + 1) (by omega)).kp k1 (fun q a b => by omega)
    · unfold kepU; rw [if_pos rfl, if_neg (by decide)]
    · rfl
  · have hn6 : ¬ n = 6 := fun q => h6 (by rw [e9, q]; rfl)
    refine fin w o n ho (by omega) e9 e8 hr Kp.refl (fun i hi => ?_) ?_ ?_
    · unfold kepU
      rw [if_neg hn6, if_neg (by omega)]
      exact hm i hi
    · unfold kepU; rw [if_neg hn6, if_pos rfl]
    · unfold kepN; rw [if_neg hn6]
/-- the fields of m that stay, but one -/
def Fm (P : Nat → Prop) (w w' : Wd) : Prop := ∀ j, ¬ P j → wI w' 166 j = wI w 166 j
theorem y_keep {us : Nat → Nat → Int32} {n : Nat} (hS : wI w 168 = S) (hn : n ≤ 6) (hU : MU us n w) : tp (sh_224 166 w) (fun _ w' => MU (kepU us n S) (kepN n) w' ∧ Kp (fun q => q = 166 ∨ q = 173) w w' ∧ Fm (fun j => j = 23) w w') := by
  obtain ⟨e23, hm⟩ := hU
  have fin : ∀ (w1 : Wd) (m : Nat), m < 6 → wI w1 166 23 = nI m → Kp (fun q => q = 166 ∨ q = 173) w w1 → Fm (fun j => j = 23) w w1 → (∀ i, i < m → ∀ j, j < 9655 → wI w1 173 (9655 * i + j) = kepU us n S i (429 + j)) → kepU us n S m = S → kepN n = m + 1 → tp (itM (fun (v1_3 : Int32) (w5 : Wd) => if v1_3 < 9655 then (gd (ib (429 + v1_3) 10265) (gd (ib ((9655 * (wI w5 166 23)) + v1_3) 57930) (stI w5 (166 + 7) (ix ((9655 * (wI w5 166 23)) + v1_3)) (wI w5 (166 + 2) (ix (429 + v1_3))) (fun w7 => lt (v1_3 + 1 : Int32) (fun v1_8 => some ((.inl v1_8 : Int32 ⊕ Unit), w7)))))) else (stI w5 166 23 ((wI w5 166 23) + 1) (fun w9 => some (.inr (()), w9)))) FU 0 w1) (fun _ w' => MU (kepU us n S) (kepN n) w' ∧ Kp (fun q => q = 166 ∨ q = 173) w w' ∧ Fm (fun j => j = 23) w w') := by
    intro w1 m hm6 e23 hK hFm hus hSm hN
    refine tp_it (fun j s w' => s = nI j ∧ j ≤ 9655 ∧ wI w' 166 23 = nI m ∧ Kp (fun q => q = 166 ∨ q = 173) w w' ∧ Fm (fun j => j = 23) w w' ∧ (∀ i, i < m → ∀ j, j < 9655 → wI w' 173 (9655 * i + j) = kepU us n S i (429 + j)) ∧ (∀ i, i < j → wI w' 173 (9655 * m + i) = S (429 + i))) 9655 (by omega) ⟨rfl, Nat.zero_le _, e23, hK, hFm, hus, fun i hi => by omega⟩ (fun j s w' hI => ?_)
    obtain ⟨e, hj, g1, g2, g3, g4, g5⟩ := hI
    subst e
    rw [g1]
    refine tp_ite (fun hlt => ?_) (fun hlt => ?_)
    · have hj9 : j < 9655 := (nlt_i (by omega) (by decide)).mp (show nI j < nI 9655 from hlt)
      have eS : wI w' (166 + 2) (429 + j) = S (429 + j) := by rw [g2.I (by omega)]; exact congrFun hS _
      rw [l429, l9655, nI_m, nI_p, nI_p, ix_nI (by omega), ix_nI (by omega), eS, nI_s]
      refine tp_gd (ib_nI (by omega) (by decide)) (tp_gd (ib_nI (by omega) (by decide)) (tp_stI (tp_lt (tp_on ⟨hj9, rfl, by omega, by rw [wI_row (by omega)]; exact g1, g2.sI (by omega) _ _, fun i hi => by rw [wI_row (by omega)]; exact g3 i hi, fun i hi k hk => ?_, fun i hi => ?_⟩))))
      · rw [wI_up, up_o (by omega)]; exact g4 i hi k hk
      · rw [wI_up]
        by_cases q : i = j
        · subst q; rw [up_s]
        · rw [up_o (by omega)]; exact g5 i (by omega)
    · have hj9 : j = 9655 := by
        by_cases q : j < 9655
        · exact absurd (nlt q (by decide) : nI j < nI 9655) hlt
        · omega
      subst hj9
      rw [nI_s]
      refine tp_stI (tp_out ⟨⟨by rw [wI_same, hN], fun i hi k hk => ?_⟩, g2.sI (by omega) _ _, fun i hi => by rw [wI_other hi]; exact g3 i hi⟩)
      rw [wI_row (by omega)]
      by_cases q : i = m
      · subst q; rw [hSm]; exact g5 k hk
      · exact g4 i (by omega) k hk
  unfold sh_224
  refine tp_jn (tp_ite (fun h6 => ?_) (fun h6 => ?_))
  · have hn6 : n = 6 := by
      rw [e23] at h6
      exact (nI_eq (by omega) (by decide)).mp (show nI n = nI 6 from h6)
    subst hn6
    refine tp_it (fun j s w' => s = nI j ∧ j ≤ 48275 ∧ Kp (fun q => q = 166 ∨ q = 173) w w' ∧ wI w' 166 = wI w 166 ∧ (∀ i, i < j → wI w' 173 i = wI w 173 (i + 9655)) ∧ (∀ i, j ≤ i → wI w' 173 i = wI w 173 i)) 48275 (by omega) ⟨rfl, Nat.zero_le _, Kp.refl, rfl, fun i hi => by omega, fun i hi => rfl⟩ (fun j s w' hI => ?_)
    obtain ⟨e, hj, g1, g2, g3, g4⟩ := hI
    subst e
    refine tp_ite (fun hlt => ?_) (fun hlt => ?_)
    · have hj9 : j < 48275 := (nlt_i (by omega) (by decide)).mp (show nI j < nI 48275 from hlt)
      rw [l9655, nI_p, ix_nI (by omega), ix_nI (by omega), nI_s]
      refine tp_gd (ib_nI (by omega) (by decide)) (tp_gd (ib_nI (by omega) (by decide)) (tp_stI (tp_lt (tp_on ⟨hj9, rfl, by omega, g1.sI (by omega) _ _, by rw [wI_row (by omega)]; exact g2, fun i hi => ?_, fun i hi => ?_⟩))))
      · rw [wI_up]
        by_cases q : i = j
        · subst q; rw [up_s]; exact g4 _ (by omega)
        · rw [up_o q]; exact g3 i (by omega)
      · rw [wI_up, up_o (by omega)]; exact g4 i (by omega)
    · have hj9 : j = 48275 := by
        by_cases q : j < 48275
        · exact absurd (nlt q (by decide) : nI j < nI 48275) hlt
        · omega
      subst hj9
      refine tp_stI (tp_upr (fin _ 5 (by decide) wI_same (g1.sI (by omega) _ _) (fun i hi => by rw [wI_other hi, g2]) (fun i hi j hj => ?_) ?_ rfl))
      · rw [wI_row (by omega), g3 _ (by omega)]
        unfold kepU
        rw [if_pos rfl, if_pos hi, show 9655 * i + j + 9655 = 9655 * (i + 1) + j by omega]
        exact hm (i + 1) (by omega) j hj
      · unfold kepU; rw [if_pos rfl, if_neg (by decide)]
  · have hn6 : ¬ n = 6 := fun q => h6 (by rw [e23, q]; rfl)
    refine fin w n (by omega) e23 Kp.refl (fun i hi => rfl) (fun i hi j hj => ?_) ?_ ?_
    · unfold kepU
      rw [if_neg hn6, if_neg (by omega)]
      exact hm i hi j hj
    · unfold kepU; rw [if_neg hn6, if_pos rfl]
    · unfold kepN; rw [if_neg hn6]
/-- the row of before -/
def undS (S U : Nat → Int32) : Nat → Int32 := fun j => if 429 ≤ j ∧ j < 10084 then U j else S j
theorem x_undo {us : Nat → Nat → Int32} {n : Nat} (hU : XU us (n + 1) w) : tp (sh_94 0 w) (fun v w' => v = nI n ∧ XU us n w' ∧ RR (us n) w' 35 ∧ Kp (fun q => q = 0 ∨ 35 ≤ q ∧ q ≤ 42) w w') := by
  obtain ⟨hn, o, ho, e9, e8, hm⟩ := hU
  have hlt : (o + n) % 6 < 6 := Nat.mod_lt _ (by decide)
  unfold sh_94
  rw [e9]
  refine tp_ifn (by rw [l1, nlt_i (by omega) (by decide)]; omega) ?_
  rw [nI_pred]
  refine tp_stI ?_
  rw [wI_other (by decide), wI_same, e8, nI_p, l6]
  refine tp_ce (x_fm (m := 6) _ (by omega) (by decide) (by decide)) (tp_gd (ib_nI hlt (by decide)) ?_)
  rw [ix_nI (by omega), Nat.zero_add]
  have k1 : Kp (fun q => q = 0) w (sI w 0 9 (nI n)) := kp0 rfl
  refine tp_cl (x_copyRug ((hm n (by omega)).kp k1 (fun q a b => by omega)) (by omega)) (fun _ w6 h6 => tp_some ⟨?_, ⟨by omega, o, ho, ?_, ?_, fun i hi => ?_⟩, h6.1, (k1.mono (fun q hq => Or.inl hq)).trans (h6.2.mono (fun q hq => Or.inr (by omega)))⟩)
  · rw [h6.2.I (by omega)]; exact wI_same
  · rw [h6.2.I (by omega)]; exact wI_same
  · rw [h6.2.I (by omega), wI_other (by decide)]; exact e8
  · have hilt : (o + i) % 6 < 6 := Nat.mod_lt _ (by decide)
    exact ((hm i (by omega)).kp k1 (fun q a b => by omega)).kp h6.2 (fun q a b => by omega)
theorem x_undo0 {us : Nat → Nat → Int32} (hU : XU us 0 w) : sh_94 0 w = some (-1, w) := by
  obtain ⟨hn, o, ho, e9, -⟩ := hU
  unfold sh_94
  rw [e9, if_pos (by decide)]
theorem y_undo0 {us : Nat → Nat → Int32} (hU : MU us 0 w) : sh_222 166 w = some (-1, sI w 166 0 0) := by
  unfold sh_222
  rw [stI_s, wI_other (by decide), hU.1, if_pos (show nI 0 = 0 from rfl)]
theorem y_undo {us : Nat → Nat → Int32} {n : Nat} (hn : n < 6) (hS : wI w 168 = S) (hU : MU us (n + 1) w) : tp (sh_222 166 w) (fun v w' => v = nI n ∧ MU us n w' ∧ wI w' 168 = undS S (us n) ∧ Kp (fun q => q = 166 ∨ q = 168) w w' ∧ Fm (fun j => j = 23 ∨ j = 0) w w') := by
  obtain ⟨e23, hm⟩ := hU
  unfold sh_222
  refine tp_stI ?_
  rw [wI_other (by decide), e23]
  refine tp_ifn (nI_ne0 (by omega) (by omega)) ?_
  rw [nI_pred]
  refine tp_stI ?_
  refine tp_it (fun j s w' => s = nI j ∧ j ≤ 9655 ∧ wI w' 166 23 = nI n ∧ Kp (fun q => q = 166 ∨ q = 168) w w' ∧ Fm (fun j => j = 23 ∨ j = 0) w w' ∧ (∀ i, i < j → wI w' 168 (429 + i) = us n (429 + i)) ∧ (∀ i, (i < 429 ∨ 429 + j ≤ i) → wI w' 168 i = S i)) 9655 (by omega) ⟨rfl, Nat.zero_le _, wI_same, (kp0 (P := fun q => q = 166 ∨ q = 168) (Or.inl rfl)).trans (kp0 (Or.inl rfl)), fun j hj => by rw [wI_other (fun q => hj (Or.inl q)), wI_other (fun q => hj (Or.inr q))], fun i hi => by omega, fun i _ => by rw [wI_row (by decide), wI_row (by decide)]; exact congrFun hS i⟩ (fun j s w' hI => ?_)
  obtain ⟨e, hj, g1, g2, g3, g4, g5⟩ := hI
  subst e
  refine tp_ite (fun hlt => ?_) (fun hlt => ?_)
  · have hj9 : j < 9655 := (nlt_i (by omega) (by decide)).mp (show nI j < nI 9655 from hlt)
    have eS : wI w' (166 + 7) (9655 * n + j) = us n (429 + j) := by rw [g2.I (by omega)]; exact hm n (by omega) j hj9
    rw [g1, l429, l9655, nI_m, nI_p, nI_p, ix_nI (by omega), ix_nI (by omega), eS, nI_s]
    refine tp_gd (ib_nI (by omega) (by decide)) (tp_gd (ib_nI (by omega) (by decide)) (tp_stI (tp_lt (tp_on ⟨hj9, rfl, by omega, by rw [wI_row (by omega)]; exact g1, g2.sI (by omega) _ _, fun i hi => by rw [wI_row (by omega)]; exact g3 i hi, fun i hi => ?_, fun i hi => ?_⟩))))
    · rw [show 166 + 2 = 168 from rfl, wI_up]
      by_cases q : i = j
      · subst q; rw [up_s]
      · rw [up_o (by omega)]; exact g4 i (by omega)
    · rw [show 166 + 2 = 168 from rfl, wI_up, up_o (by omega)]; exact g5 i (by omega)
  · have hj9 : j = 9655 := by
      by_cases q : j < 9655
      · exact absurd (nlt q (by decide) : nI j < nI 9655) hlt
      · omega
    subst hj9
    refine tp_out ⟨g1, ⟨g1, fun m hm' i hi => by rw [g2.I (by omega)]; exact hm m (by omega) i hi⟩, ?_, g2, g3⟩
    funext i
    unfold undS
    by_cases q : 429 ≤ i ∧ i < 10084
    · rw [if_pos q]
      have := g4 (i - 429) (by omega)
      rw [show 429 + (i - 429) = i by omega] at this
      exact this
    · rw [if_neg q]; exact g5 i (by omega)
end BT
