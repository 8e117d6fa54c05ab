/-! a day, beating: the reference's row, the class's rug -/
/-- out of a loop within a loop -/
theorem tp_oin {S1 S2 α : Type} {A1 : S1 → Wd → Prop} {A : S2 → Wd → Prop} {Q : α → Wd → Prop} {s : S2} {w : Wd} (h : A s w) : tp (some ((.inr (.inl s) : S1 ⊕ (S2 ⊕ α)), w)) (lpQ A1 (lpQ A Q)) := ⟨_, _, rfl, h⟩
theorem tp_oout {S1 S2 α : Type} {A1 : S1 → Wd → Prop} {A : S2 → Wd → Prop} {Q : α → Wd → Prop} {r : α} {w : Wd} (h : Q r w) : tp (some ((.inr (.inr r) : S1 ⊕ (S2 ⊕ α)), w)) (lpQ A1 (lpQ A Q)) := ⟨_, _, rfl, h⟩
theorem n_dec {n : Nat} (h : 0 < n) : nI n + (-1) = nI (n - 1) := by
  obtain ⟨m, rfl⟩ : ∃ m, n = m + 1 := ⟨n - 1, by omega⟩
  show nI (m + 1) + (-1) = nI m
  rw [show nI (m + 1) = nI m + 1 from (nI_s m).symm, Int32.add_assoc, show (1 : Int32) + -1 = 0 from by decide, Int32.add_zero]
theorem nlt_i {a b : Nat} (ha : a < 2147483648) (hb : b < 2147483648) : nI a < nI b ↔ a < b := ⟨fun h => by
  by_cases q : a < b
  · exact q
  · exact absurd h (nnlt (by omega) ha), fun h => nlt h hb⟩
theorem nle_i {a b : Nat} (ha : a < 2147483648) (hb : b < 2147483648) : nI a ≤ nI b ↔ a ≤ b := ⟨fun h => by
  by_cases q : a ≤ b
  · exact q
  · exact absurd h (nnle (by omega) ha), fun h => nle h hb⟩
/-- a row with n places from row on made 0 -/
def clrS (T : Nat → Int32) (row n : Nat) : Nat → Int32 := fun i => if row ≤ i ∧ i < row + n then 0 else T i
/-- a row of ages, one older -/
def oldS (T : Nat → Int32) (F row : Nat) : Nat → Int32 := fun j => if row ≤ j ∧ j < row + 9 then (if j = row then 0 else if j - row < F then T (j - 1) else 0) else T j
def oldM (T : Nat → Int32) (F row v : Nat) : Nat → Int32 := fun j => if row + v < j ∧ j < row + 9 then (if j - row < F then T (j - 1) else 0) else T j
theorem oldM_s {T : Nat → Int32} {F row v : Nat} (hv : 0 < v) (hv8 : v ≤ 8) : up (oldM T F row v) (row + v) (if v < F then T (row + v - 1) else 0) = oldM T F row (v - 1) := by
  funext j
  unfold up oldM
  by_cases h : j = row + v
  · subst h
    rw [if_pos rfl, if_pos (show row + (v - 1) < row + v ∧ row + v < row + 9 by omega), show row + v - row = v by omega]
  · rw [if_neg h]
    by_cases h1 : row + v < j ∧ j < row + 9
    · rw [if_pos h1, if_pos (show row + (v - 1) < j ∧ j < row + 9 by omega)]
    · rw [if_neg h1, if_neg (show ¬ (row + (v - 1) < j ∧ j < row + 9) by omega)]
theorem oldM_e {T : Nat → Int32} {F row : Nat} : up (oldM T F row 0) row 0 = oldS T F row := by
  funext j
  unfold up oldM oldS
  by_cases h : j = row
  · subst h
    rw [if_pos rfl, if_pos (by omega), if_pos rfl]
  · rw [if_neg h]
    by_cases h1 : row + 0 < j ∧ j < row + 9
    · rw [if_pos h1, if_pos (show row ≤ j ∧ j < row + 9 by omega), if_neg h]
    · rw [if_neg h1, if_neg (by omega)]
section DY
variable {S T : Nat → Int32} {w : Wd} {h r o : Nat}
theorem y_older {F row : Nat} (hF : F < 100) (h6 : 6 < row) (hr : row + 9 ≤ 10265) (hT : wI w (o + 2) = T) (e6 : T 6 = nI F) : tp (sh_229 o (nI row) w) (fun _ w' => wI w' (o + 2) = oldS T F row ∧ Kp (fun q => q = o + 2) w w') := by
  unfold sh_229
  refine tp_it (fun j s w' => s = nI (8 - j) ∧ j ≤ 8 ∧ wI w' (o + 2) = oldM T F row (8 - j) ∧ Kp (fun q => q = o + 2) w w') 8 (by omega) ⟨rfl, Nat.zero_le _, ?_, Kp.refl⟩ (fun j s w' hI => ?_)
  · rw [hT]
    funext i
    unfold oldM
    rw [if_neg (by omega)]
  obtain ⟨e, hj, hT', hK⟩ := hI
  obtain ⟨v, hv⟩ : ∃ v, v = 8 - j := ⟨_, rfl⟩
  rw [← hv] at e hT'
  subst e
  refine tp_ite (fun hlt => ?_) (fun hlt => ?_)
  · have hv0 : 0 < v := (nlt_i (by decide) (by omega)).mp (show nI 0 < nI v from hlt)
    have e6' : wI w' (o + 2) 6 = nI F := by rw [hT']; unfold oldM; rw [if_neg (by omega), e6]
    rw [ix_6, e6', nI_p, n_dec hv0]
    have eT : wI w' (o + 2) (row + v - 1) = T (row + v - 1) := by rw [hT']; unfold oldM; rw [if_neg (by omega)]
    refine tp_gd (ib_l (by decide) (by decide)) (tp_ite (fun h1 => ?_) (fun h1 => ?_))
    · have h2 : v < F := (nlt_i (by omega) (by omega)).mp h1
      rw [show nI (row + v) - 1 = nI (row + v - 1) from pk_sub (b := 1) (by omega), ix_nI (by omega), ix_nI (by omega), eT]
      refine tp_gd (ib_nI (by omega) (by decide)) (tp_gd (ib_nI (by omega) (by decide)) (tp_stI (tp_lt (tp_on ⟨by omega, by rw [show 8 - (j + 1) = v - 1 by omega], by omega, ?_, hK.sI rfl _ _⟩))))
      rw [wI_up, hT', show 8 - (j + 1) = v - 1 by omega, ← oldM_s hv0 (by omega), if_pos h2]
    · have h2 : ¬ v < F := fun q => h1 (nlt q (by omega))
      rw [ix_nI (by omega)]
      refine tp_gd (ib_nI (by omega) (by decide)) (tp_stI (tp_lt (tp_on ⟨by omega, by rw [show 8 - (j + 1) = v - 1 by omega], by omega, ?_, hK.sI rfl _ _⟩)))
      rw [wI_up, hT', show 8 - (j + 1) = v - 1 by omega, ← oldM_s hv0 (by omega), if_neg h2]
  · have hv0 : v = 0 := by
      by_cases q : v = 0
      · exact q
      · exact absurd (show (0 : Int32) < nI v from jp (by omega) (by omega)) hlt
    subst hv0
    rw [ix_nI (by omega)]
    refine tp_gd (ib_nI (by omega) (by decide)) (tp_stI (tp_out ⟨?_, hK.sI rfl _ _⟩))
    rw [wI_up, hT', oldM_e]
theorem y_clears {row n : Nat} (hr : row + n ≤ 10265) (hT : wI w (o + 2) = T) : tp (sh_230 o (nI row) (nI n) w) (fun _ w' => wI w' (o + 2) = clrS T row n ∧ Kp (fun q => q = o + 2) w w') := by
  unfold sh_230
  refine tp_it (fun j s w' => s = nI j ∧ j ≤ n ∧ wI w' (o + 2) = clrS T row j ∧ Kp (fun q => q = o + 2) w w') n (by omega) ⟨rfl, Nat.zero_le _, ?_, Kp.refl⟩ (fun j s w' hI => ?_)
  · rw [hT]
    funext i
    unfold clrS
    rw [if_neg (by omega)]
  obtain ⟨e, hj, hT', hK⟩ := hI
  subst e
  refine tp_ite (fun hlt => ?_) (fun hlt => ?_)
  · have hjn : j < n := (nlt_i (by omega) (by omega)).mp hlt
    rw [nI_p, ix_nI (by omega), nI_s]
    refine tp_gd (ib_nI (by omega) (by decide)) (tp_stI (tp_lt (tp_on ⟨hjn, rfl, by omega, ?_, hK.sI rfl _ _⟩)))
    rw [wI_up, hT']
    funext i
    unfold up clrS
    by_cases h1 : i = row + j
    · rw [if_pos h1, if_pos (by omega)]
    · rw [if_neg h1]
      by_cases h2 : row ≤ i ∧ i < row + j
      · rw [if_pos h2, if_pos (by omega)]
      · rw [if_neg h2, if_neg (by omega)]
  · have hjn : j = n := by
      by_cases q : j < n
      · exact absurd (nlt q (by omega)) hlt
      · omega
    subst hjn
    exact tp_out ⟨hT', hK⟩
/-- a day more -/
def dayS (S : Nat → Int32) : Nat → Int32 := fun j => if j = 429 then S 429 + 1 else if 436 ≤ j ∧ j < 1012 then (if 0 < S (436 + 4 * ((j - 436) / 4)) ∧ S 6 ≤ S 429 + 1 - S (439 + 4 * ((j - 436) / 4)) then 0 else S j) else if 1012 ≤ j ∧ j < 10084 then (if (j - 1012) % 9 = 0 then 0 else if (j - 1012) % 9 < ix (S 6) then S (j - 1) else 0) else S j
theorem day_lo {j : Nat} (hj : j < 429 ∨ 430 ≤ j ∧ j < 436 ∨ 10084 ≤ j) : dayS S j = S j := by
  unfold dayS
  rw [if_neg (by omega), if_neg (by omega), if_neg (by omega)]
theorem day_top {t q : Nat} (ht : t < 144) (hq : q < 4) : dayS S (436 + 4 * t + q) = if 0 < S (436 + 4 * t) ∧ S 6 ≤ S 429 + 1 - S (439 + 4 * t) then 0 else S (436 + 4 * t + q) := by
  unfold dayS
  rw [if_neg (by omega), if_pos (by omega), show (436 + 4 * t + q - 436) / 4 = t by omega]
theorem day_age {t a F : Nat} (ht : t < 1008) (ha : a < 9) (eF : ix (S 6) = F) : dayS S (1012 + 9 * t + a) = if a = 0 then 0 else if a < F then S (1012 + 9 * t + (a - 1)) else 0 := by
  unfold dayS
  rw [if_neg (by omega), if_neg (by omega), if_pos (by omega), show (1012 + 9 * t + a - 1012) % 9 = a by omega, eF]
  by_cases h0 : a = 0
  · rw [if_pos h0, if_pos h0]
  · rw [if_neg h0, if_neg h0, show 1012 + 9 * t + a - 1 = 1012 + 9 * t + (a - 1) by omega]
def dayM (S : Nat → Int32) (i j : Nat) : Nat → Int32 := fun k => if k = 429 then S 429 + 1 else if 2308 ≤ k ∧ k < 2308 + 9 * i then dayS S k else if 1012 ≤ k ∧ k < 1012 + 9 * j then dayS S k else if 436 ≤ k ∧ k < 436 + 4 * j then dayS S k else S k
theorem dayM_1 {F j : Nat} (eF : ix (S 6) = F) (hj : j < 864) : oldS (dayM S j 0) F (2308 + 9 * j) = dayM S (j + 1) 0 := by
  funext k
  unfold oldS
  by_cases h1 : 2308 + 9 * j ≤ k ∧ k < 2308 + 9 * j + 9
  · rw [if_pos h1]
    have e : dayM S (j + 1) 0 k = dayS S (1012 + 9 * (144 + j) + (k - (2308 + 9 * j))) := by
      unfold dayM
      rw [if_neg (by omega), if_pos (by omega)]
      exact congrArg (dayS S) (by omega)
    rw [e, day_age (by omega) (by omega) eF]
    by_cases h2 : k = 2308 + 9 * j
    · rw [if_pos h2, if_pos (by omega)]
    · rw [if_neg h2, if_neg (show ¬ k - (2308 + 9 * j) = 0 by omega)]
      have e2 : dayM S j 0 (k - 1) = S (1012 + 9 * (144 + j) + (k - (2308 + 9 * j) - 1)) := by
        unfold dayM
        rw [if_neg (by omega), if_neg (by omega), if_neg (by omega), if_neg (by omega)]
        exact congrArg S (by omega)
      rw [e2]
  · rw [if_neg h1]
    unfold dayM
    by_cases h2 : k = 429
    · rw [if_pos h2, if_pos h2]
    · rw [if_neg h2, if_neg h2]
      by_cases h3 : 2308 ≤ k ∧ k < 2308 + 9 * j
      · rw [if_pos h3, if_pos (by omega)]
      · rw [if_neg h3, if_neg (show ¬ (2308 ≤ k ∧ k < 2308 + 9 * (j + 1)) by omega)]
/-- the top row of t made anew, its full row too -/
theorem dayM_2 {F j : Nat} (eF : ix (S 6) = F) (hj : j < 144) (T : Nat → Int32) (hT : T = oldS (dayM S 864 j) F (1012 + 9 * j)) :
    dayM S 864 (j + 1) = if 0 < S (436 + 4 * j) ∧ S 6 ≤ S 429 + 1 - S (439 + 4 * j) then clrS T (436 + 4 * j) 4 else T := by
  subst hT
  have key : ∀ k, ¬ (436 + 4 * j ≤ k ∧ k < 436 + 4 * j + 4) → dayM S 864 (j + 1) k = oldS (dayM S 864 j) F (1012 + 9 * j) k := by
    intro k hk
    unfold oldS
    by_cases h1 : 1012 + 9 * j ≤ k ∧ k < 1012 + 9 * j + 9
    · rw [if_pos h1]
      have e : dayM S 864 (j + 1) k = dayS S (1012 + 9 * j + (k - (1012 + 9 * j))) := by
        unfold dayM
        rw [if_neg (by omega), if_neg (by omega), if_pos (by omega)]
        exact congrArg (dayS S) (by omega)
      rw [e, day_age (by omega) (by omega) eF]
      by_cases h2 : k = 1012 + 9 * j
      · rw [if_pos h2, if_pos (by omega)]
      · rw [if_neg h2, if_neg (show ¬ k - (1012 + 9 * j) = 0 by omega)]
        have e2 : dayM S 864 j (k - 1) = S (1012 + 9 * j + (k - (1012 + 9 * j) - 1)) := by
          unfold dayM
          rw [if_neg (by omega), if_neg (by omega), if_neg (by omega), if_neg (by omega)]
          exact congrArg S (by omega)
        rw [e2]
    · rw [if_neg h1]
      unfold dayM
      by_cases h2 : k = 429
      · rw [if_pos h2, if_pos h2]
      · rw [if_neg h2, if_neg h2]
        by_cases h3 : 2308 ≤ k ∧ k < 2308 + 9 * 864
        · rw [if_pos h3, if_pos h3]
        · rw [if_neg h3, if_neg h3]
          by_cases h4 : 1012 ≤ k ∧ k < 1012 + 9 * j
          · rw [if_pos h4, if_pos (by omega)]
          · rw [if_neg h4, if_neg (by omega)]
            by_cases h5 : 436 ≤ k ∧ k < 436 + 4 * j
            · rw [if_pos h5, if_pos (by omega)]
            · rw [if_neg h5, if_neg (by omega)]
  have key2 : ∀ k, 436 + 4 * j ≤ k ∧ k < 436 + 4 * j + 4 → dayM S 864 (j + 1) k = (if 0 < S (436 + 4 * j) ∧ S 6 ≤ S 429 + 1 - S (439 + 4 * j) then 0 else S k) ∧ oldS (dayM S 864 j) F (1012 + 9 * j) k = S k := by
    intro k hk
    constructor
    · unfold dayM
      rw [if_neg (by omega), if_neg (by omega), if_neg (by omega), if_pos (by omega)]
      have e := day_top (S := S) hj (q := k - (436 + 4 * j)) (by omega)
      rw [show 436 + 4 * j + (k - (436 + 4 * j)) = k by omega] at e
      exact e
    · unfold oldS dayM
      rw [if_neg (by omega), if_neg (by omega), if_neg (by omega), if_neg (by omega), if_neg (by omega)]
  funext k
  by_cases hc : 0 < S (436 + 4 * j) ∧ S 6 ≤ S 429 + 1 - S (439 + 4 * j)
  · rw [if_pos hc]
    unfold clrS
    by_cases hk : 436 + 4 * j ≤ k ∧ k < 436 + 4 * j + 4
    · rw [if_pos hk, (key2 k hk).1, if_pos hc]
    · rw [if_neg hk, key k hk]
  · rw [if_neg hc]
    by_cases hk : 436 + 4 * j ≤ k ∧ k < 436 + 4 * j + 4
    · rw [(key2 k hk).1, (key2 k hk).2, if_neg hc]
    · rw [key k hk]
theorem dayM_e : dayM S 864 144 = dayS S := by
  funext k
  unfold dayM
  by_cases h1 : k = 429
  · rw [if_pos h1]; unfold dayS; rw [if_pos h1]
  · rw [if_neg h1]
    by_cases h2 : 2308 ≤ k ∧ k < 2308 + 9 * 864
    · rw [if_pos h2]
    · rw [if_neg h2]
      by_cases h3 : 1012 ≤ k ∧ k < 1012 + 9 * 144
      · rw [if_pos h3]
      · rw [if_neg h3]
        by_cases h4 : 436 ≤ k ∧ k < 436 + 4 * 144
        · rw [if_pos h4]
        · rw [if_neg h4, day_lo (by omega)]
theorem y_day (hF : WF S) (hS : wI w (o + 2) = S) : tp (sh_228 o w) (fun _ w' => wI w' (o + 2) = dayS S ∧ Kp (fun q => q = o + 2) w w') := by
  obtain ⟨F, e6, hF1, hF9⟩ := hF.2.2.2.2.2.1
  have eF : ix (S 6) = F := by rw [e6, ix_nI (by omega)]
  unfold sh_228
  rw [ix_429, hS]
  refine tp_gd (ib_l (by decide) (by decide)) (tp_gd (ib_l (by decide) (by decide)) (tp_stI ?_))
  refine tp_it (fun j s w' => s = nI j ∧ j ≤ 864 ∧ wI w' (o + 2) = dayM S j 0 ∧ Kp (fun q => q = o + 2) w w') 864 (by omega) ⟨rfl, Nat.zero_le _, ?_, Kp.sI (P := fun q => q = o + 2) Kp.refl rfl _ _⟩ (fun j s w' hI => ?_)
  · rw [wI_up, hS]
    funext k
    unfold up dayM
    by_cases h1 : k = 429
    · rw [if_pos h1, if_pos h1]
    · rw [if_neg h1, if_neg h1, if_neg (by omega), if_neg (by omega), if_neg (by omega)]
  obtain ⟨e, hj, hT, hK⟩ := hI
  subst e
  refine tp_ite (fun hlt => ?_) (fun hlt => ?_)
  · have hj8 : j < 864 := (nlt_i (by omega) (by decide)).mp (show nI j < nI 864 from hlt)
    rw [show (2308 : Int32) + 9 * nI j = nI (2308 + 9 * j) by rw [l2308, l9, nI_m, nI_p], nI_s]
    refine tp_cl (y_older (F := F) (by omega) (by omega) (by omega) hT (by unfold dayM; rw [if_neg (by omega), if_neg (by omega), if_neg (by omega), if_neg (by omega), e6])) (fun _ w2 h2 => tp_lt (tp_on ⟨hj8, rfl, by omega, by rw [h2.1, dayM_1 eF hj8], hK.trans h2.2⟩))
  · have hj8 : j = 864 := by
      by_cases q : j < 864
      · exact absurd (nlt q (by decide) : nI j < nI 864) hlt
      · omega
    subst hj8
    refine tp_it (fun j s w' => s = nI j ∧ j ≤ 144 ∧ wI w' (o + 2) = dayM S 864 j ∧ Kp (fun q => q = o + 2) w w') 144 (by omega) ⟨rfl, Nat.zero_le _, hT, hK⟩ (fun j s w' hI => ?_)
    obtain ⟨e, hj, hT, hK⟩ := hI
    subst e
    refine tp_ite (fun hlt => ?_) (fun hlt => ?_)
    · have hj8 : j < 144 := (nlt_i (by omega) (by decide)).mp (show nI j < nI 144 from hlt)
      rw [show (1012 : Int32) + 9 * nI j = nI (1012 + 9 * j) by rw [l1012, l9, nI_m, nI_p], show (436 : Int32) + 4 * nI j = nI (436 + 4 * j) by rw [l436, l4, nI_m, nI_p], nI_s, show nI (436 + 4 * j) + 3 = nI (436 + 4 * j + 3) by rw [l3, nI_p]]
      refine tp_cl (y_older (F := F) (by omega) (by omega) (by omega) hT (by unfold dayM; rw [if_neg (by omega), if_neg (by omega), if_neg (by omega), if_neg (by omega), e6])) (fun _ w2 h2 => ?_)
      obtain ⟨h2T, h2K⟩ := h2
      have g : ∀ k, k = 6 ∨ 436 + 4 * j ≤ k ∧ k < 440 + 4 * j → wI w2 (o + 2) k = S k := fun k hk => by
        rw [h2T]
        unfold oldS dayM
        rw [if_neg (by omega), if_neg (by omega), if_neg (by omega), if_neg (by omega), if_neg (by omega)]
      have g9 : wI w2 (o + 2) 429 = S 429 + 1 := by
        rw [h2T]
        unfold oldS dayM
        rw [if_neg (by omega), if_pos rfl]
      rw [ix_nI (by omega), ix_nI (by omega), ix_6, g (436 + 4 * j) (Or.inr (by omega)), g (436 + 4 * j + 3) (Or.inr (by omega)), g 6 (Or.inl rfl), g9, show 436 + 4 * j + 3 = 439 + 4 * j by omega]
      have hM := dayM_2 eF hj8 _ h2T
      refine tp_gd (ib_nI (by omega) (by decide)) (tp_ite (fun c1 => ?_) (fun c1 => ?_))
      · refine tp_gd (ib_l (by decide) (by decide)) (tp_gd (ib_nI (by omega) (by decide)) (tp_gd (ib_l (by decide) (by decide)) (tp_ite (fun c2 => ?_) (fun c2 => ?_))))
        · refine tp_cl (y_clears (n := 4) (by omega) rfl) (fun _ w3 h3 => tp_lt (tp_on ⟨hj8, rfl, by omega, ?_, (hK.trans h2K).trans h3.2⟩))
          rw [h3.1, hM, if_pos ⟨c1, c2⟩]
        · refine tp_lt (tp_on ⟨hj8, rfl, by omega, ?_, hK.trans h2K⟩)
          rw [hM, if_neg (fun q => c2 q.2)]
      · refine tp_lt (tp_on ⟨hj8, rfl, by omega, ?_, hK.trans h2K⟩)
        rw [hM, if_neg (fun q => c1 q.1)]
    · have hj8 : j = 144 := by
        by_cases q : j < 144
        · exact absurd (nlt q (by decide) : nI j < nI 144) hlt
        · omega
      subst hj8
      exact tp_oout ⟨by rw [hT, dayM_e], hK⟩
theorem LI_eq (t k a : Nat) : LI t k a = 1012 + 9 * (144 + (6 * t + k)) + a := by unfold LI; omega
theorem day_LI {t k a F : Nat} (ht : t < 144) (hk : k < 6) (ha : a < 9) (eF : ix (S 6) = F) : dayS S (LI t k a) = if a = 0 then 0 else if a < F then S (LI t k (a - 1)) else 0 := by
  rw [LI_eq, LI_eq, day_age (by omega) ha eF]
theorem day_wsum {t a F : Nat} (ht : t < 144) (ha : a < 9) (eF : ix (S 6) = F) : wsum (dayS S) t a = if a = 0 then 0 else if a < F then wsum S t (a - 1) else 0 := by
  have e : wsum (dayS S) t a = sm 6 (fun k => (if a = 0 then 0 else if a < F then S (LI t k (a - 1)) else 0) * wt S k) := sm_c (fun k hk => by
    rw [day_LI ht hk ha eF, wt_low (fun j hj => day_lo (Or.inl hj)) k hk])
  rw [e]
  by_cases h0 : a = 0
  · rw [if_pos h0]
    exact sm_0 (fun k _ => by rw [if_pos h0, Int32.zero_mul])
  · rw [if_neg h0]
    by_cases h1 : a < F
    · rw [if_pos h1]
      exact sm_c (fun k _ => by rw [if_neg h0, if_pos h1])
    · rw [if_neg h1]
      exact sm_0 (fun k _ => by rw [if_neg h0, if_neg h1, Int32.zero_mul])
theorem wsum_z (hW : WR S) {t a : Nat} (ht : t < 144) (ha : a < 9) (hF : ix (S 6) ≤ a) : wsum S t a = 0 := sm_0 (fun k hk => by rw [hW.2.1 t k a ht hk ha (Or.inr hF), Int32.zero_mul])
/-- the places of a slot -/
theorem sl_next {d a : Nat} (ha : 0 < a) (h9 : a ≤ 9) : sl (d + 1) a = sl d (a - 1) := by unfold sl; omega
theorem sl_zero {d : Nat} : sl (d + 1) 0 = sl d 8 := by unfold sl; omega
theorem sl_nine {d : Nat} : sl (d + 1) 9 = sl (d + 1) 0 := by unfold sl; omega
def dayP (f : Nat → Int32) (s n : Nat) : Nat → Int32 := fun i => if s * 864 ≤ i ∧ i < s * 864 + n then 0 else f i
def dayL (f : Nat → Int32) (s n : Nat) : Nat → Int32 := fun i => if s * 144 ≤ i ∧ i < s * 144 + n then 0 else f i
def dayT (f g : Nat → Int32) (F d n : Nat) : Nat → Int32 := fun i => if i < n ∧ nI F ≤ nI (d + 1) - g i then -1 else f i
theorem RR.day {w w' : Wd} (hF : WF S) (hW : WR S) (hr : RR S w r) {d F : Nat} (ed : S 429 = nI d) (hd : d ≤ 998) (e6 : S 6 = nI F) (h1 : 1 ≤ F) (h9 : F ≤ 9) (g0 : wI w' r 0 = nI (d + 1)) (g1 : wI w' (r + 1) = dayP (wI w (r + 1)) (sl (d + 1) F) 864) (g2 : wI w' (r + 2) = dayL (wI w (r + 2)) (sl (d + 1) F) 144) (g3 : wI w' (r + 3) = dayT (wI w (r + 3)) (wI w (r + 6)) F d 144) (g4 : wI w' (r + 4) = wI w (r + 4)) (g5 : wI w' (r + 5) = wI w (r + 5)) (g6 : wI w' (r + 6) = wI w (r + 6)) (g7 : wI w' (r + 7) = wI w (r + 7)) : RR (dayS S) w' r := by
  have eF : ix (S 6) = F := by rw [e6, ix_nI (by omega)]
  have ed9 : dayS S 429 = nI (d + 1) := by unfold dayS; rw [if_pos rfl, ed, nI_s]
  obtain ⟨r1, r2, r3, r4, r5⟩ := hr
  rw [ed, ix_nI (by omega)] at r3 r4
  unfold RR
  rw [ed9, g0, g1, g2, g3, g4, g5, g6, g7, ix_nI (by omega)]
  have hs := sl_lt (d := d + 1) (a := F)
  have hne : ∀ a, a < 9 → ¬ sl (d + 1) a = sl (d + 1) F → ¬ (a = F ∨ F = 9 ∧ a = 0) := fun a ha q z => by
    rcases z with z | ⟨z1, z2⟩
    · subst z; exact q rfl
    · subst z1; subst z2; exact q sl_nine.symm
  have hne2 : ∀ a, a < 9 → sl (d + 1) a = sl (d + 1) F → a = F ∨ F = 9 ∧ a = 0 := fun a ha q => by
    by_cases z : F = 9
    · subst z
      rw [sl_nine] at q
      exact Or.inr ⟨rfl, sl_inj ha (by decide) q⟩
    · exact Or.inl (sl_inj ha (by omega) q)
  refine ⟨rfl, fun k hk => by rw [day_lo (by omega)]; exact r2 k hk, fun t k a ht hk ha => ?_, fun t a ht ha => ?_, fun t ht => ?_⟩
  · rw [day_LI ht hk ha eF]
    have hsa := sl_lt (d := d + 1) (a := a)
    unfold dayP PI
    by_cases q : sl (d + 1) a = sl (d + 1) F
    · rw [if_pos (by rw [q]; omega)]
      rcases hne2 a ha q with z | ⟨z1, z2⟩
      · rw [if_neg (by omega), if_neg (by omega)]
      · rw [if_pos z2]
    · have hn := hne a ha q
      rw [if_neg (by omega)]
      by_cases h0 : a = 0
      · subst h0
        rw [if_pos rfl, sl_zero]
        have := r3 t k 8 ht hk (by decide)
        unfold PI at this
        rw [this]
        exact hW.2.1 t k 8 ht hk (by decide) (Or.inr (by omega))
      · rw [if_neg h0, sl_next (by omega) (by omega)]
        have := r3 t k (a - 1) ht hk (by omega)
        unfold PI at this
        rw [this]
        by_cases h2 : a < F
        · rw [if_pos h2]
        · rw [if_neg h2]
          exact hW.2.1 t k (a - 1) ht hk (by omega) (Or.inr (by omega))
  · rw [day_age (by omega) ha eF, day_wsum ht ha eF]
    have hsa := sl_lt (d := d + 1) (a := a)
    unfold dayL
    by_cases q : sl (d + 1) a = sl (d + 1) F
    · rw [if_pos (by rw [q]; omega)]
      rcases hne2 a ha q with z | ⟨z1, z2⟩
      · rw [if_neg (by omega), if_neg (by omega), if_neg (by omega), if_neg (by omega)]; rfl
      · rw [if_pos z2, if_pos z2]; rfl
    · have hn := hne a ha q
      rw [if_neg (by omega)]
      by_cases h0 : a = 0
      · subst h0
        rw [if_pos rfl, if_pos rfl, sl_zero, r4 t 8 ht (by decide), hW.2.2.1 t 8 ht (by decide) (by omega), wsum_z hW ht (by decide) (by omega)]
      · rw [if_neg h0, if_neg h0, sl_next (by omega) (by omega), r4 t (a - 1) ht (by omega)]
        by_cases h2 : a < F
        · rw [if_pos h2, if_pos h2]
        · rw [if_neg h2, if_neg h2, hW.2.2.1 t (a - 1) ht (by omega) (by omega), wsum_z hW ht (by omega) (by omega)]
  · have e0 := day_top (S := S) ht (q := 0) (by decide)
    have e1 := day_top (S := S) ht (q := 1) (by decide)
    have e2 := day_top (S := S) ht (q := 2) (by decide)
    have e3 := day_top (S := S) ht (q := 3) (by decide)
    rw [Nat.add_zero] at e0
    rw [show 436 + 4 * t + 1 = 437 + 4 * t by omega] at e1
    rw [show 436 + 4 * t + 2 = 438 + 4 * t by omega] at e2
    rw [show 436 + 4 * t + 3 = 439 + 4 * t by omega] at e3
    unfold dayT
    rcases r5 t ht with ⟨h2, h3⟩ | ⟨p, hp, h2, h3, h4, h5, h6⟩
    · left
      rw [e0, h2, h3]
      refine ⟨?_, by split <;> rfl⟩
      split <;> rfl
    · rw [h6]
      by_cases hc : nI F ≤ nI (d + 1) - S (439 + 4 * t)
      · left
        rw [e0, if_pos ⟨by rw [h2]; exact jp (by omega) (by omega), by rw [e6, ed, nI_s]; exact hc⟩, if_pos ⟨ht, hc⟩]
        exact ⟨rfl, rfl⟩
      · right
        have hc2 : ¬ (0 < S (436 + 4 * t) ∧ S 6 ≤ S 429 + 1 - S (439 + 4 * t)) := fun q => hc (by have := q.2; rw [e6, ed, nI_s] at this; exact this)
        rw [if_neg hc2] at e0 e1 e2 e3
        rw [e0, e1, e2, e3, if_neg (fun q => hc q.2)]
        exact ⟨p, hp, h2, h3, h4, h5, rfl⟩
theorem WR.day (hF : WF S) (hW : WR S) (hr : RR S w r) (hd : ix (S 429) ≤ 998) : WR (dayS S) := by
  obtain ⟨F, e6, h1, h9⟩ := hF.2.2.2.2.2.1
  have eF : ix (S 6) = F := by rw [e6, ix_nI (by omega)]
  obtain ⟨⟨d, ed, hd9⟩, w2, w3, w4, w5⟩ := hW
  rw [ed, ix_nI (by omega)] at hd w5
  rw [eF] at w2 w3 w5
  have ed9 : dayS S 429 = nI (d + 1) := by unfold dayS; rw [if_pos rfl, ed, nI_s]
  unfold WR
  rw [ed9, day_lo (S := S) (j := 2) (by omega), day_lo (S := S) (j := 6) (by omega), eF, ix_nI (by omega)]
  refine ⟨⟨d + 1, rfl, by omega⟩, fun t k a ht hk ha q => ?_, fun t a ht ha q => ?_, fun t ht q k a hk ha => ?_, fun t ht q => ?_⟩
  · rw [day_LI ht hk ha eF]
    by_cases h0 : a = 0
    · rw [if_pos h0]
    · rw [if_neg h0]
      by_cases h2 : a < F
      · rw [if_pos h2]
        exact w2 t k (a - 1) ht hk (by omega) (Or.inl (by omega))
      · rw [if_neg h2]
  · rw [day_age (by omega) ha eF]
    by_cases h0 : a = 0
    · rw [if_pos h0]
    · rw [if_neg h0, if_neg (by omega)]
  · have e0 := day_top (S := S) ht (q := 0) (by decide)
    rw [Nat.add_zero] at e0
    rw [day_LI ht hk ha eF]
    by_cases h0 : a = 0
    · rw [if_pos h0]
    · rw [if_neg h0]
      by_cases h2 : a < F
      · rw [if_pos h2]
        rcases hr.2.2.2.2 t ht with ⟨g2, -⟩ | ⟨p, hp, g2, -⟩
        · exact w4 t ht g2 k (a - 1) hk (by omega)
        · obtain ⟨g, k1, k2, k3, k4⟩ := w5 t ht ⟨p, hp, g2⟩
          rw [e0] at q
          by_cases hc : 0 < S (436 + 4 * t) ∧ S 6 ≤ S 429 + 1 - S (439 + 4 * t)
          · have hc2 := hc.2
            rw [e6, ed, k3, nI_s, pk_sub (by omega), nle_i (by omega) (by omega)] at hc2
            exact k4 k (a - 1) hk (by omega) (by omega)
          · rw [if_neg hc, g2] at q
            exact absurd q (nI_ne0 (by omega) (by omega))
      · rw [if_neg h2]
  · have e0 := day_top (S := S) ht (q := 0) (by decide)
    have e3 := day_top (S := S) ht (q := 3) (by decide)
    rw [Nat.add_zero] at e0
    rw [show 436 + 4 * t + 3 = 439 + 4 * t by omega] at e3
    obtain ⟨p, hp, q⟩ := q
    rw [e0] at q
    by_cases hc : 0 < S (436 + 4 * t) ∧ S 6 ≤ S 429 + 1 - S (439 + 4 * t)
    · rw [if_pos hc] at q
      exact absurd q.symm (nI_ne0 (by omega) (by omega))
    · rw [if_neg hc] at q e3
      obtain ⟨g, k1, k2, k3, k4⟩ := w5 t ht ⟨p, hp, q⟩
      have hc2 : ¬ F ≤ g + 1 := fun z => hc ⟨by rw [q]; exact jp (by omega) (by omega), by rw [e6, ed, k3, nI_s, pk_sub (by omega)]; exact nle (by omega) (by omega)⟩
      refine ⟨g + 1, by omega, by omega, by rw [e3, k3, show d + 1 - (g + 1) = d - g by omega], fun k a hk ha9 ha => ?_⟩
      rw [day_LI ht hk ha9 eF]
      by_cases h0 : a = 0
      · rw [if_pos h0]
      · rw [if_neg h0]
        by_cases h2 : a < F
        · rw [if_pos h2]
          exact k4 k (a - 1) hk (by omega) (by omega)
        · rw [if_neg h2]
theorem x_letDay (hF : WF S) (hW : WR S) (hr : RR S w r) {F : Nat} (e6 : S 6 = nI F) (hd : ix (S 429) ≤ 998) : tp (sh_83 r (nI F) w) (fun _ w' => RR (dayS S) w' r ∧ Kp (fun q => r ≤ q ∧ q ≤ r + 7) w w') := by
  obtain ⟨F', e6', h1, h9⟩ := hF.2.2.2.2.2.1
  obtain ⟨d, ed, hd9⟩ := hW.1
  rw [ed, ix_nI (by omega)] at hd
  have : F = F' ∨ ¬ F = F' := by omega
  have eFF : nI F = nI F' := by rw [← e6, e6']
  rw [eFF]
  have eS : sl (d + 1) F' = (d + 1 + 9 - F') % 9 := rfl
  have hs := sl_lt (d := d + 1) (a := F')
  unfold sh_83
  rw [hr.1, ed, nI_s]
  refine tp_stI ?_
  rw [wI_same]
  refine tp_ce (r := nI (sl (d + 1) F')) (by unfold sh_76; rw [cl_e (x_fm9 _ (by omega) (by omega)), eS]) ?_
  refine tp_it (fun j s w' => s = nI j ∧ j ≤ 144 ∧ wI w' r 0 = nI (d + 1) ∧ wI w' (r + 1) = dayP (wI w (r + 1)) (sl (d + 1) F') (6 * j) ∧ wI w' (r + 2) = dayL (wI w (r + 2)) (sl (d + 1) F') j ∧ wI w' (r + 3) = dayT (wI w (r + 3)) (wI w (r + 6)) F' d j ∧ wI w' (r + 4) = wI w (r + 4) ∧ wI w' (r + 5) = wI w (r + 5) ∧ wI w' (r + 6) = wI w (r + 6) ∧ wI w' (r + 7) = wI w (r + 7) ∧ Kp (fun q => r ≤ q ∧ q ≤ r + 7) w w') 144 (by omega) ⟨rfl, Nat.zero_le _, wI_same, ?_, ?_, ?_, wI_row (by omega), wI_row (by omega), wI_row (by omega), wI_row (by omega), Kp.refl.sI (by omega) _ _⟩ (fun j s w' hI => ?_)
  · rw [wI_row (by omega)]; funext i; unfold dayP; rw [if_neg (by omega)]
  · rw [wI_row (by omega)]; funext i; unfold dayL; rw [if_neg (by omega)]
  · rw [wI_row (by omega)]; funext i; unfold dayT; rw [if_neg (by omega)]
  obtain ⟨e, hj, g0, g1, g2, g3, g4, g5, g6, g7, hK⟩ := hI
  subst e
  refine tp_ite (fun hlt => ?_) (fun hlt => ?_)
  · have hj8 : j < 144 := (nlt_i (by omega) (by decide)).mp (show nI j < nI 144 from hlt)
    refine tp_it (fun k s w' => s = nI k ∧ k ≤ 6 ∧ wI w' r 0 = nI (d + 1) ∧ wI w' (r + 1) = dayP (wI w (r + 1)) (sl (d + 1) F') (6 * j + k) ∧ wI w' (r + 2) = dayL (wI w (r + 2)) (sl (d + 1) F') j ∧ wI w' (r + 3) = dayT (wI w (r + 3)) (wI w (r + 6)) F' d j ∧ wI w' (r + 4) = wI w (r + 4) ∧ wI w' (r + 5) = wI w (r + 5) ∧ wI w' (r + 6) = wI w (r + 6) ∧ wI w' (r + 7) = wI w (r + 7) ∧ Kp (fun q => r ≤ q ∧ q ≤ r + 7) w w') 6 (by omega) ⟨rfl, Nat.zero_le _, g0, g1, g2, g3, g4, g5, g6, g7, hK⟩ (fun k s w' hI => ?_)
    clear g0 g1 g2 g3 g4 g5 g6 g7 hK
    obtain ⟨e, hk, g0, g1, g2, g3, g4, g5, g6, g7, hK⟩ := hI
    subst e
    refine tp_ite (fun hlt => ?_) (fun hlt => ?_)
    · have hk6 : k < 6 := (nlt_i (by omega) (by decide)).mp (show nI k < nI 6 from hlt)
      refine tp_ce (x_78 _ _ _ _) (tp_gd (ib_nI (by omega) (by decide)) (tp_stI (tp_lt ?_)))
      rw [ix_nI (by omega), nI_s]
      refine tp_on ⟨hk6, rfl, by omega, by rw [wI_row (by omega)]; exact g0, ?_, by rw [wI_row (by omega)]; exact g2, by rw [wI_row (by omega)]; exact g3, by rw [wI_row (by omega)]; exact g4, by rw [wI_row (by omega)]; exact g5, by rw [wI_row (by omega)]; exact g6, by rw [wI_row (by omega)]; exact g7, hK.sI (by omega) _ _⟩
      rw [wI_up, g1]
      funext i
      unfold up dayP
      by_cases q : i = (sl (d + 1) F' * 144 + j) * 6 + k
      · rw [if_pos q, if_pos (by omega)]
      · rw [if_neg q]
        by_cases q2 : sl (d + 1) F' * 864 ≤ i ∧ i < sl (d + 1) F' * 864 + (6 * j + k)
        · rw [if_pos q2, if_pos (by omega)]
        · rw [if_neg q2, if_neg (by omega)]
    · have hk6 : k = 6 := by
        by_cases q : k < 6
        · exact absurd (nlt q (by decide) : nI k < nI 6) hlt
        · omega
      subst hk6
      rw [l144, nI_m, nI_p, ix_nI (by omega), ix_nI (by omega), nI_s]
      have eL : up (wI w' (r + 2)) (sl (d + 1) F' * 144 + j) 0 = dayL (wI w (r + 2)) (sl (d + 1) F') (j + 1) := by
        rw [g2]
        funext i
        unfold up dayL
        by_cases q : i = sl (d + 1) F' * 144 + j
        · rw [if_pos q, if_pos (by omega)]
        · rw [if_neg q]
          by_cases q2 : sl (d + 1) F' * 144 ≤ i ∧ i < sl (d + 1) F' * 144 + j
          · rw [if_pos q2, if_pos (by omega)]
          · rw [if_neg q2, if_neg (by omega)]
      refine tp_gd (ib_nI (by omega) (by decide)) (tp_stI (tp_gd (ib_nI hj8 (by decide)) ?_))
      rw [show wI (sI w' (r + 2) (sl (d + 1) F' * 144 + j) 0) r 0 = nI (d + 1) by rw [wI_row (by omega)]; exact g0, show wI (sI w' (r + 2) (sl (d + 1) F' * 144 + j) 0) (r + 6) j = wI w (r + 6) j by rw [wI_row (by omega), g6]]
      refine tp_ite (fun c => ?_) (fun c => ?_)
      · refine tp_gd (ib_nI hj8 (by decide)) (tp_stI (tp_lt (tp_oin ⟨hj8, rfl, by omega, ?_, ?_, ?_, ?_, ?_, ?_, ?_, ?_, (hK.sI (by omega) _ _).sI (by omega) _ _⟩)))
        · rw [wI_row (by omega), wI_row (by omega)]; exact g0
        · rw [wI_row (by omega), wI_row (by omega)]; exact g1
        · rw [wI_row (by omega), wI_up]; exact eL
        · rw [wI_up, wI_row (by omega), g3]
          funext i
          unfold up dayT
          by_cases q : i = j
          · subst q; rw [if_pos rfl, if_pos ⟨by omega, c⟩]
          · rw [if_neg q]
            by_cases q2 : i < j ∧ nI F' ≤ nI (d + 1) - wI w (r + 6) i
            · rw [if_pos q2, if_pos ⟨by omega, q2.2⟩]
            · rw [if_neg q2, if_neg (fun z => q2 ⟨by omega, z.2⟩)]
        · rw [wI_row (by omega), wI_row (by omega)]; exact g4
        · rw [wI_row (by omega), wI_row (by omega)]; exact g5
        · rw [wI_row (by omega), wI_row (by omega)]; exact g6
        · rw [wI_row (by omega), wI_row (by omega)]; exact g7
      · refine tp_lt (tp_oin ⟨hj8, rfl, by omega, ?_, ?_, ?_, ?_, ?_, ?_, ?_, ?_, hK.sI (by omega) _ _⟩)
        · rw [wI_row (by omega)]; exact g0
        · rw [wI_row (by omega)]; exact g1
        · rw [wI_up]; exact eL
        · rw [wI_row (by omega), g3]
          funext i
          unfold dayT
          by_cases q : i = j
          · subst q; rw [if_neg (fun z => by omega), if_neg (fun z => c z.2)]
          · by_cases q2 : i < j ∧ nI F' ≤ nI (d + 1) - wI w (r + 6) i
            · rw [if_pos q2, if_pos ⟨by omega, q2.2⟩]
            · rw [if_neg q2, if_neg (fun z => q2 ⟨by omega, z.2⟩)]
        · rw [wI_row (by omega)]; exact g4
        · rw [wI_row (by omega)]; exact g5
        · rw [wI_row (by omega)]; exact g6
        · rw [wI_row (by omega)]; exact g7
  · have hj8 : j = 144 := by
      by_cases q : j < 144
      · exact absurd (nlt q (by decide) : nI j < nI 144) hlt
      · omega
    subst hj8
    exact tp_out ⟨hr.day hF hW ed hd e6' h1 h9 g0 g1 g2 g3 g4 g5 g6 g7, hK⟩
end DY
