/-! calls that tell of the rug: what the class answers, what the reference answers -/
def XS (S : Nat → Int32) (w : Wd) : Prop := WF S ∧ WR S ∧ RR S w 35 ∧ ∃ a, wR w 0 2 = some a ∧ HR S w a
theorem m0 {w : Wd} {S : Nat → Int32} {v : Int32} (hS : wI w 168 = S) : wI (sI w 166 0 v) (166 + 2) = S := by rw [wI_row (by decide)]; exact hS
/-- a search that counts -/
def srch (q : Nat → Bool) (k : Int32) (fin : Int32 → Int32) : Nat → Nat → Int32 → Int32
  | 0, _, c => fin c
  | n + 1, j, c => if q j = true then (if c = k then nI j else srch q k fin n (j + 1) (c + 1)) else srch q k fin n (j + 1) c
theorem itM_srch {body : Int32 × Int32 → Wd → Option (((Int32 × Int32) ⊕ Int32) × Wd)} {w : Wd} (q : Nat → Bool) (k : Int32) (fin : Int32 → Int32) (N : Nat)
    (hs : ∀ j c, j < N → body (c, nI j) w = if q j = true then (if c = k then some (.inr (nI j), w) else some (.inl (c + 1, nI (j + 1)), w)) else some (.inl (c, nI (j + 1)), w))
    (he : ∀ c, body (c, nI N) w = some (.inr (fin c), w)) (hN : N < 1000000000000000) {s : Int32 × Int32} (h0 : s = (0, nI 0)) : itM body FU s w = some (srch q k fin N 0 0, w) := by
  subst h0
  have key : ∀ (m n j : Nat) (c : Int32), j + n = N → n < m → itM body m (c, nI j) w = some (srch q k fin n j c, w) := by
    intro m
    induction m with
    | zero => intro n j c hj hm; omega
    | succ m ih =>
      intro n j c hj hm
      rw [itM]
      cases n with
      | zero =>
        have : j = N := by omega
        subst this
        rw [he]
        rfl
      | succ n =>
        rw [hs j c (by omega)]
        unfold srch
        by_cases h1 : q j = true
        · rw [if_pos h1, if_pos h1]
          by_cases h2 : c = k
          · rw [if_pos h2, if_pos h2]
          · rw [if_neg h2, if_neg h2]
            exact ih n (j + 1) (c + 1) (by omega) (by omega)
        · rw [if_neg h1, if_neg h1]
          exact ih n (j + 1) c (by omega) (by omega)
  exact key FU N 0 0 (by omega) (FU_gt hN)
theorem srch_c {q q' : Nat → Bool} {k : Int32} {fin : Int32 → Int32} {n j : Nat} {c : Int32} (h : ∀ i, i < j + n → q i = q' i) : srch q k fin n j c = srch q' k fin n j c := by
  induction n generalizing j c with
  | zero => rfl
  | succ n ih =>
    unfold srch
    rw [h j (by omega), ih (fun i hi => h i (by omega)), ih (fun i hi => h i (by omega))]
/-- a number below none is never found -/
theorem srch_neg {q : Nat → Bool} {k : Int32} {fin : Int32 → Int32} {n j c : Nat} (hk : k < -1) (hc : c + n < 2147483648) (hf : ∀ c, fin c = -1) : srch q k fin n j (nI c) = -1 := by
  induction n generalizing j c with
  | zero => exact hf _
  | succ n ih =>
    unfold srch
    have hne : ¬ nI c = k := fun e => by
      rw [← e, i_lt, i_nI (by omega)] at hk
      have : (c : Int) < -1 := hk
      omega
    rw [if_neg hne, nI_s, ih (c := c + 1) (by omega), ih (c := c) (by omega)]
    split <;> rfl
/-- a walk over 0, 1, .. with something carried -/
def fo {σ : Type} (f : Nat → σ → σ) : Nat → σ → σ
  | 0, s => s
  | n + 1, s => f n (fo f n s)
theorem fo_c {σ : Type} {f g : Nat → σ → σ} {n : Nat} {s : σ} (h : ∀ i, i < n → ∀ s, f i s = g i s) : fo f n s = fo g n s := by
  induction n with
  | zero => rfl
  | succ n ih => unfold fo; rw [h n (by omega), ih (fun i hi => h i (by omega))]
section CX
variable {S : Nat → Int32} {w : Wd}
def missS (S : Nat → Int32) (t : Int32) : Int32 := if isT S t = true then fulS S (ix t) - depS S (ix t) else -1
theorem x_missing (h : XS S w) (t : Int32) : sh_98 0 t w = some (missS S t, w) := by
  obtain ⟨hF, hW, hr, a, ha, hR⟩ := h
  unfold sh_98 missS
  rw [der_e ha, cl_e (x_onRug hF hR t)]
  by_cases h : isT S t = true
  · obtain ⟨k, e, hk, -⟩ := isT_t hF h
    subst e
    rw [if_pos h, if_pos h, der_e ha, ix_nI (by omega), Nat.zero_add, cl_e (x_lostOn hF hW hR hr hk)]
  · rw [if_neg h, if_neg h]
theorem y_missing (hF : WF S) (hW : WR S) (hS : wI w 168 = S) (t : Int32) : sh_235 166 t w = some (missS S t, sI w 166 0 0) := by
  unfold sh_235 missS
  rw [stI_s, cl_e (y_isTuft (m0 hS) t)]
  by_cases h : isT S t = true
  · obtain ⟨k, e, hk, -⟩ := isT_t hF h
    subst e
    rw [if_pos h, if_pos h, ix_nI (by omega), cl_e (y_fullDepth hF hW (m0 hS) hk), cl_e (y_depth hF hW (m0 hS) hk)]
  · rw [if_neg h, if_neg h]
def hidS (S : Nat → Int32) (k : Int32) : Int32 := srch (fun t => !decide (fulS S t = depS S t)) k (fun c => if k = -1 then c else -1) 144 0 0
theorem sub_0 (a b : Int32) : a - b = 0 ↔ a = b := by
  constructor
  · intro h
    have : a - b + b = 0 + b := by rw [h]
    rwa [Int32.sub_add_cancel, Int32.zero_add] at this
  · intro h; rw [h, Int32.sub_self]
theorem x_hidden (h : XS S w) (k : Int32) : sh_95 0 k w = some (hidS S k, w) := by
  obtain ⟨hF, hW, hr, a, ha, hR⟩ := h
  unfold sh_95 hidS
  refine itM_srch _ k _ 144 (fun j c hj => ?_) (fun c => ?_) (by decide) rfl
  · show (if nI j < 144 then _ else _) = _
    rw [if_pos (jl hj (by decide)), der_e ha, Nat.zero_add, cl_e (x_lostOn hF hW hR hr hj)]
    by_cases h : fulS S j = depS S j
    · rw [if_pos ((sub_0 _ _).mpr h), if_neg (by rw [decide_eq_true h]; decide)]
      simp only [lt_s_, nI_s]
    · rw [if_neg (fun q => h ((sub_0 _ _).mp q)), if_pos (show (!decide (fulS S j = depS S j)) = true by rw [decide_eq_false h]; rfl)]
      simp only [lt_s_, nI_s]
  · show (if nI 144 < 144 then _ else _) = _
    rw [if_neg (by decide)]
    rfl
theorem y_hidden (hF : WF S) (hW : WR S) (hS : wI w 168 = S) (k : Int32) : sh_233 166 k w = some (hidS S k, sI w 166 0 0) := by
  unfold sh_233
  rw [stI_s]
  by_cases hk : k < -1
  · rw [if_pos hk]
    unfold hidS
    have e : srch (fun t => !decide (fulS S t = depS S t)) k (fun c => if k = -1 then c else -1) 144 0 (nI 0) = -1 := srch_neg hk (by decide) (fun c => if_neg (fun q => by subst q; revert hk; decide))
    rw [show (0 : Int32) = nI 0 from rfl, e]
  · rw [if_neg hk]
    unfold hidS
    refine itM_srch _ k _ 144 (fun j c hj => ?_) (fun c => ?_) (by decide) rfl
    · show (if nI j < 144 then _ else _) = _
      rw [if_pos (jl hj (by decide)), cl_e (y_fullDepth hF hW (m0 hS) hj), cl_e (y_depth hF hW (m0 hS) hj)]
      by_cases h : fulS S j = depS S j
      · rw [if_pos h, if_neg (by rw [decide_eq_true h]; decide)]
        simp only [lt_s_, nI_s]
      · rw [if_neg h, if_pos (show (!decide (fulS S j = depS S j)) = true by rw [decide_eq_false h]; rfl)]
        simp only [lt_s_, nI_s]
    · show (if nI 144 < 144 then _ else _) = _
      rw [if_neg (by decide)]
      rfl
def solS (S : Nat → Int32) (s : Int32) : Int32 := sm 144 (fun t => bi (decide (0 < S (436 + 4 * t) ∧ S (437 + 4 * t) = s)))
theorem x_soles (h : XS S w) (s : Int32) : sh_99 0 s w = some (solS S s, w) := by
  obtain ⟨hF, hW, hr, -⟩ := h
  unfold sh_99 solS
  refine itM_acc2 (fun j => sm j (fun t => bi (decide (0 < S (436 + 4 * t) ∧ S (437 + 4 * t) = s)))) 144 w (fun j hj => ?_) ?_ rfl (by decide)
  · show (if nI j < 144 then _ else _) = _
    rw [if_pos (jl hj (by decide)), Nat.zero_add, cl_e (x_lies hr hj)]
    by_cases h1 : 0 < S (436 + 4 * j)
    · have e1 : lyS S j = true := decide_eq_true h1
      rw [if_pos e1, cl_e (x_soleOn hr hj), if_pos e1]
      by_cases h2 : S (437 + 4 * j) = s
      · rw [if_pos h2]
        simp only [lt_s_, nI_s, sm, decide_eq_true (And.intro h1 h2), bi]
      · rw [if_neg h2]
        simp only [lt_s_, nI_s, sm, decide_eq_false (fun q : 0 < S (436 + 4 * j) ∧ S (437 + 4 * j) = s => h2 q.2), bi, Int32.add_zero]
    · have e1 : ¬ lyS S j = true := fun q => h1 (of_decide_eq_true q)
      rw [if_neg e1]
      simp only [lt_s_, nI_s, sm, decide_eq_false (fun q : 0 < S (436 + 4 * j) ∧ S (437 + 4 * j) = s => h1 q.1), bi, Int32.add_zero]
  · show (if nI 144 < 144 then _ else _) = _
    rw [if_neg (by decide)]
theorem y_soles (hS : wI w 168 = S) (s : Int32) : sh_236 166 s w = some (solS S s, sI w 166 0 0) := by
  unfold sh_236 solS
  rw [stI_s]
  refine itM_acc2 (fun j => sm j (fun t => bi (decide (0 < S (436 + 4 * t) ∧ S (437 + 4 * t) = s)))) 144 _ (fun j hj => ?_) ?_ rfl (by decide)
  · show (if nI j < 144 then _ else _) = _
    rw [if_pos (jl hj (by decide)), l436, l4, l1, nI_m, nI_p, nI_p, gd_nI (by omega) (by decide), gd_nI (by omega) (by decide), m0 hS, ix_nI (by omega), ix_nI (by omega), show 436 + 4 * j + 1 = 437 + 4 * j by omega]
    by_cases h1 : 0 < S (436 + 4 * j)
    · rw [if_pos h1]
      by_cases h2 : S (437 + 4 * j) = s
      · rw [if_pos h2]
        simp only [lt_s_, nI_p, sm, decide_eq_true (And.intro h1 h2), bi]
        rfl
      · rw [if_neg h2]
        simp only [lt_s_, nI_p, sm, decide_eq_false (fun q : 0 < S (436 + 4 * j) ∧ S (437 + 4 * j) = s => h2 q.2), bi, Int32.add_zero]
    · rw [if_neg h1]
      simp only [lt_s_, nI_p, sm, decide_eq_false (fun q : 0 < S (436 + 4 * j) ∧ S (437 + 4 * j) = s => h1 q.1), bi, Int32.add_zero]
  · show (if nI 144 < 144 then _ else _) = _
    rw [if_neg (by decide)]
/-- the first of the most -/
def bestS (f : Nat → Int32) : Nat → Int32 × Int32 → Int32 × Int32 := fo (fun t s => if s.2 < f t then (nI t, f t) else s)
theorem x_deepest (h : XS S w) : sh_101 0 w = some ((bestS (depS S) 144 (-1, 0)).1, w) := by
  obtain ⟨hF, hW, hr, a, ha, hR⟩ := h
  unfold sh_101
  refine itM_seq (fun j => ((bestS (depS S) j (-1, 0)).1, (bestS (depS S) j (-1, 0)).2, nI j)) (fun _ => w) 144 (fun j hj => ?_) ?_ rfl rfl (by decide)
  · show (if nI j < 144 then _ else _) = _
    rw [if_pos (jl hj (by decide)), der_e ha, Nat.zero_add, cl_e (x_depthOn hF hW hR hr hj)]
    have e : bestS (depS S) (j + 1) (-1, 0) = if (bestS (depS S) j (-1, 0)).2 < depS S j then (nI j, depS S j) else bestS (depS S) j (-1, 0) := rfl
    by_cases h : (bestS (depS S) j (-1, 0)).2 < depS S j
    · rw [if_pos h] at e ⊢
      simp only [lt_s_, nI_s, e]
    · rw [if_neg h] at e ⊢
      simp only [lt_s_, nI_s, e]
  · show (if nI 144 < 144 then _ else _) = _
    rw [if_neg (by decide)]
theorem y_deepest (hF : WF S) (hW : WR S) (hS : wI w 168 = S) : sh_237 166 w = some ((bestS (depS S) 144 (-1, 0)).1, sI w 166 0 0) := by
  unfold sh_237
  rw [stI_s]
  refine itM_seq (fun j => ((bestS (depS S) j (-1, 0)).1, (bestS (depS S) j (-1, 0)).2, nI j)) (fun _ => sI w 166 0 0) 144 (fun j hj => ?_) ?_ rfl rfl (by decide)
  · show (if nI j < 144 then _ else _) = _
    rw [if_pos (jl hj (by decide)), cl_e (y_depth hF hW (m0 hS) hj)]
    have e : bestS (depS S) (j + 1) (-1, 0) = if (bestS (depS S) j (-1, 0)).2 < depS S j then (nI j, depS S j) else bestS (depS S) j (-1, 0) := rfl
    by_cases h : (bestS (depS S) j (-1, 0)).2 < depS S j
    · rw [if_neg (Int32.not_le.mpr h)]
      rw [if_pos h] at e
      simp only [lt_s_, nI_s, e]
    · rw [if_pos (Int32.not_lt.mp h)]
      rw [if_neg h] at e
      simp only [lt_s_, nI_s, e]
  · show (if nI 144 < 144 then _ else _) = _
    rw [if_neg (by decide)]
end CX
