/-! treads: the programs -/
theorem sub_eq_c (a b c : Int32) : b - a = c ↔ b = a + c := by
  constructor
  · intro h; rw [← h, Int32.sub_eq_add_neg, Int32.add_comm b, ← Int32.add_assoc, ← Int32.sub_eq_add_neg, Int32.sub_self, Int32.zero_add]
  · intro h; rw [h, Int32.sub_eq_add_neg, Int32.add_comm a, Int32.add_assoc, ← Int32.sub_eq_add_neg, Int32.sub_self, Int32.add_zero]
theorem x_db (a b : Int32) (w : Wd) : sh_80 a b w = some (dbS a b, w) := by
  unfold sh_80 dbS
  by_cases h1 : b = a - 12
  · rw [if_pos h1, if_pos h1]
  · rw [if_neg h1, if_neg h1]
    by_cases h2 : b = a + 1
    · rw [if_pos h2, if_pos h2]
    · rw [if_neg h2, if_neg h2]; rfl
theorem y_db (a b : Int32) (w : Wd) : sh_226 a b w = some (dbS a b, w) := by
  have e1 : (b - a = -12) ↔ (b = a - 12) := by rw [sub_eq_c, Int32.sub_eq_add_neg]
  unfold sh_226 dbS
  by_cases h1 : b = a - 12
  · rw [if_pos h1, if_pos (e1.mpr h1)]; rfl
  · rw [if_neg h1, if_neg (fun q => h1 (e1.mp q))]
    by_cases h2 : b = a + 1
    · rw [if_pos h2, if_pos ((sub_eq_c _ _ _).mpr h2)]; rfl
    · rw [if_neg h2, if_neg (fun q => h2 ((sub_eq_c _ _ _).mp q))]
      by_cases h3 : b = a + 12
      · rw [if_pos h3, if_pos ((sub_eq_c _ _ _).mpr h3)]; rfl
      · rw [if_neg h3, if_neg (fun q => h3 ((sub_eq_c _ _ _).mp q))]; rfl
theorem x_min {a b : Nat} (w : Wd) (ha : a < 2147483648) (hb : b < 2147483648) : sh_19 (nI a) (nI b) w = some (nI (min a b), w) := by
  unfold sh_19
  by_cases h : a ≤ b
  · rw [if_pos (nle h hb), Nat.min_eq_left h]; rfl
  · rw [if_neg (nnle (by omega) ha), Nat.min_eq_right (by omega)]; rfl
theorem x_max {a b : Nat} (w : Wd) (ha : a < 2147483648) (hb : b < 2147483648) : sh_85 (nI a) (nI b) w = some (nI (max a b), w) := by
  unfold sh_85
  by_cases h : b ≤ a
  · rw [if_pos (nle h ha), Nat.max_eq_left h]; rfl
  · rw [if_neg (nnle (by omega) hb), Nat.max_eq_right (by omega)]; rfl
theorem WR.cong {S T : Nat → Int32} (h : WR S) (he : ∀ j, j < 10084 → (j ≤ 429 ∨ 436 ≤ j) → T j = S j) : WR T := by
  unfold WR LI at h ⊢
  rw [he 2 (by omega) (by omega), he 6 (by omega) (by omega), he 429 (by omega) (by omega)]
  obtain ⟨h1, h2, h3, h4, h5⟩ := h
  refine ⟨h1, fun t k a ht hk ha q => ?_, fun t a ht ha q => ?_, fun t ht q k a hk ha => ?_, fun t ht q => ?_⟩
  · rw [he _ (by omega) (by omega)]; exact h2 t k a ht hk ha q
  · rw [he _ (by omega) (by omega)]; exact h3 t a ht ha q
  · rw [he _ (by omega) (by omega)] at q ⊢
    exact h4 t ht q k a hk ha
  · rw [he _ (by omega) (by omega)] at q
    obtain ⟨g, g1, g2, g3, g4⟩ := h5 t ht q
    refine ⟨g, g1, g2, by rw [he _ (by omega) (by omega)]; exact g3, fun k a hk ha9 ha => ?_⟩
    rw [he _ (by omega) (by omega)]
    exact g4 k a hk ha9 ha
section TP
variable {S : Nat → Int32} {w : Wd} {h r o p k : Nat}
theorem x_dirOf (hF : WF S) (hR : HR S w h) (hk : k < 2147483648) {i : Nat} (hi : i < lenN S k) : sh_79 h (nI k) (nI i) w = some (dirS S k i, w) := by
  have hl := lenN_le hF k
  unfold sh_79 dirS
  rw [cl_e (x_len hF hR hk), lt_s_, l1, pk_sub (by omega)]
  by_cases h1 : lenN S k = 1
  · rw [if_pos h1, h1, if_pos (nlt (by decide) (by decide))]
  · rw [if_neg h1, if_neg (nnlt (by omega) (by omega)), pk_sub (by omega), cl_e (x_min w (by omega) (by omega))]
    by_cases h2 : i + 1 < lenN S k
    · rw [if_pos h2, Nat.min_eq_left (by omega), cl_e (x_way_in hF hR hi), nI_p, cl_e (x_way_in hF hR h2), cl_e (x_db _ _ w)]
    · rw [if_neg h2, Nat.min_eq_right (by omega), cl_e (x_way_in hF hR (by omega)), nI_p, cl_e (x_way_in hF hR (by omega)), cl_e (x_db _ _ w), show lenN S k - 1 - 1 = i - 1 by omega, show i - 1 + 1 = i by omega]
theorem walk_low (hF : WF S) (hp : p < ix (S 2)) (sole : Int32) (n : Nat) (hn : n ≤ lenN S k) : (∀ j, j < 436 ∨ 10084 ≤ j → walkS S p k sole n j = S j) ∧ (WR S → WR (walkS S p k sole n)) := by
  have hp6 := hF.p6 hp
  induction n with
  | zero => exact ⟨fun _ _ => rfl, fun h => h⟩
  | succ n ih =>
    obtain ⟨i1, i2⟩ := ih (by omega)
    have hk : k < ix (S 3) := by
      by_cases q : k < ix (S 3)
      · exact q
      · unfold lenN at hn; rw [if_neg q] at hn; omega
    obtain ⟨m, en, hm1, hm2, e, hw⟩ := hF.ways hk
    obtain ⟨t, et, ht, -⟩ := hw n (by omega)
    have ht2 : tN S k n = t := by unfold tN; rw [et, ix_nI (by omega)]
    have e1 : walkS S p k sole (n + 1) = trodS (walkS S p k sole n) (tN S k n) p sole (dirS S k n) := rfl
    have hF' : WF (walkS S p k sole n) := hF.cong (fun j hj => i1 j (by omega))
    rw [e1, ht2]
    refine ⟨fun j hj => ?_, fun h => ?_⟩
    · rcases hj with hj | hj
      · rw [trod_low ht hp6 hj]; exact i1 j (by omega)
      · rw [trod_high ht hp6 hj]; exact i1 j (by omega)
    · exact (i2 h).trod hF' ht (by rw [i1 2 (by omega)]; exact hp)
theorem RR.walks (hr : RR S w r) (hp : p < 6) : RR (up S (430 + p) (S (430 + p) + 1)) (sI w (r + 7) p (wI w (r + 7) p + 1)) r := by
  obtain ⟨h1, h2, h3, h4, h5⟩ := hr
  have hl : ∀ j, j < 429 → up S (430 + p) (S (430 + p) + 1) j = S j := fun j hj => up_o (by omega)
  unfold RR
  rw [up_o (show ¬ 429 = 430 + p by omega), wI_row (show ¬ r = r + 7 by omega), wI_row (show ¬ r + 1 = r + 7 by omega), wI_row (show ¬ r + 2 = r + 7 by omega), wI_row (show ¬ r + 3 = r + 7 by omega), wI_row (show ¬ r + 4 = r + 7 by omega), wI_row (show ¬ r + 5 = r + 7 by omega), wI_row (show ¬ r + 6 = r + 7 by omega), wI_up]
  refine ⟨h1, fun k hk => ?_, fun t k a ht hk ha => ?_, fun t a ht ha => ?_, fun t ht => ?_⟩
  · by_cases q : k = p
    · subst q; rw [up_s, up_s, h2 k hk]
    · rw [up_o q, up_o (by omega), h2 k hk]
  · rw [up_o (by unfold LI; omega)]; exact h3 t k a ht hk ha
  · rw [up_o (by omega), wsum_c hl (fun k hk => up_o (by unfold LI; omega))]; exact h4 t a ht ha
  · rw [up_o (by omega), up_o (by omega), up_o (by omega), up_o (by omega)]; exact h5 t ht
theorem goes_low (hF : WF S) (hp : p < ix (S 2)) (sole : Int32) {j : Nat} (hj : j < 430 ∨ 10084 ≤ j) : goesS S p k sole j = S j := by
  have hp6 := hF.p6 hp
  unfold goesS
  rw [up_o (by omega)]
  exact (walk_low hF hp sole _ (Nat.le_refl _)).1 j (by omega)
theorem WR.goes (hF : WF S) (hW : WR S) (hp : p < ix (S 2)) (sole : Int32) : WR (goesS S p k sole) := by
  have hp6 := hF.p6 hp
  exact ((walk_low hF hp sole _ (Nat.le_refl _)).2 hW).cong (fun j _ hj => by unfold goesS; exact up_o (by omega))
theorem x_tread (hF : WF S) (hW : WR S) (hR : HR S w h) (hr : RR S w r) (hh : h + 9 < r) (hp : p < ix (S 2)) (hk : k < ix (S 3)) (sole : Int32) : tp (sh_74 r h (nI p) (nI k) sole w) (fun _ w' => RR (goesS S p k sole) w' r ∧ Kp (fun q => r ≤ q ∧ q ≤ r + 7) w w') := by
  have hp6 := hF.p6 hp
  have hk6 := hF.w6 hk
  obtain ⟨d, ed, hd⟩ := hW.1
  obtain ⟨n, en, hn1, hn2, eln, hw⟩ := hF.ways hk
  have h9 : d % 9 < 9 := Nat.mod_lt _ (by decide)
  unfold sh_74
  refine tp_ce (x_75 w hp6) (tp_if rfl ?_)
  rw [hr.1, ed]
  refine tp_ce (x_76 w (by omega)) (tp_ce (x_len hF hR (by omega)) ?_)
  rw [eln]
  refine tp_it (fun j s w' => s = nI j ∧ j ≤ n ∧ RR (walkS S p k sole j) w' r ∧ Kp (fun q => r ≤ q ∧ q ≤ r + 7) w w') n (by omega) ⟨rfl, Nat.zero_le _, hr, Kp.refl⟩ (fun j s w' hI => ?_)
  obtain ⟨e, hj, hr', hK⟩ := hI
  subst e
  obtain ⟨low, hWj⟩ := walk_low (p := p) (k := k) hF hp sole j (by omega)
  have hF' : WF (walkS S p k sole j) := hF.cong (fun i hi => low i (by omega))
  have hR' : HR S w' h := hR.kp hK (fun q h1 h2 h3 => by omega)
  refine tp_ite (fun hlt => ?_) (fun hlt => ?_)
  · have hjn : j < n := by
      by_cases q : j < n
      · exact q
      · exact absurd hlt (nnlt (by omega) (by omega))
    obtain ⟨t, et, ht, -⟩ := hw j hjn
    refine tp_ce (x_way_in hF hR' (by omega)) ?_
    rw [et]
    refine tp_ce (x_77 w' ht) (tp_if rfl (tp_ce (x_78 _ _ _ _) ?_))
    have hi : (d % 9 * 144 + t) * 6 + p < 7776 := by omega
    refine tp_gd (ib_nI hi (by decide)) (tp_gd (ib_nI hi (by decide)) (tp_stI (tp_gd (ib_nI ht (by decide)) (tp_stI (tp_gd (ib_nI ht (by decide)) (tp_stI ?_))))))
    rw [ix_nI (by omega), ix_nI (by omega)]
    refine tp_ce (x_dirOf hF (hR'.kp (P := fun q => r ≤ q ∧ q ≤ r + 7) (((Kp.refl.sI (by omega) _ _).sI (by omega) _ _).sI (by omega) _ _) (fun q h1 h2 h3 => by omega)) (by omega) (by omega)) ?_
    refine tp_gd (ib_nI ht (by decide)) (tp_stI (tp_gd (ib_nI ht (by decide)) (tp_stI (tp_lt ?_))))
    rw [nI_s]
    have e429 : walkS S p k sole j 429 = nI d := by rw [low 429 (by omega), ed]
    have hR2 := hr'.trod (t := t) (p := p) (sole := sole) (dir := dirS S k j) hF' (hWj hW) ht (by rw [low 2 (by omega)]; exact hp)
    rw [e429, ix_nI (by omega)] at hR2
    have e1 : walkS S p k sole (j + 1) = trodS (walkS S p k sole j) t p sole (dirS S k j) := by
      show trodS (walkS S p k sole j) (tN S k j) p sole (dirS S k j) = _
      unfold tN
      rw [et, ix_nI (by omega)]
    rw [← e1] at hR2
    refine tp_on ⟨hjn, rfl, by omega, ?_, ?_⟩
    · have e0 : wI (sI (sI (sI (sI w' (r + 1) ((d % 9 * 144 + t) * 6 + p) (wI w' (r + 1) ((d % 9 * 144 + t) * 6 + p) + 1)) (r + 3) t (nI p)) (r + 4) t sole) (r + 5) t (dirS S k j)) r 0 = wI w' r 0 := by
        rw [wI_row (by omega), wI_row (by omega), wI_row (by omega), wI_row (by omega)]
      rw [e0]
      exact hR2
    · exact ((((hK.sI (by omega) _ _).sI (by omega) _ _).sI (by omega) _ _).sI (by omega) _ _).sI (by omega) _ _
  · have hjn : j = n := by
      by_cases q : j < n
      · exact absurd (nlt q (by omega)) hlt
      · omega
    subst hjn
    refine tp_gd (ib_nI hp6 (by decide)) (tp_gd (ib_nI hp6 (by decide)) (tp_stI (tp_out ⟨?_, hK.sI (by omega) _ _⟩)))
    rw [ix_nI (by omega)]
    unfold goesS
    rw [eln]
    exact hr'.walks hp6
theorem y_walks (hF : WF S) (hS : wI w (o + 2) = S) (hp : p < ix (S 2)) (hk : k < ix (S 3)) (sole : Int32) : tp (sh_225 o (nI p) (nI k) sole w) (fun _ w' => wI w' (o + 2) = goesS S p k sole ∧ Kp (fun q => q = o + 2) w w') := by
  have hp6 := hF.p6 hp
  have hk6 := hF.w6 hk
  obtain ⟨n, en, hn1, hn2, eln, hw⟩ := hF.ways hk
  unfold sh_225
  rw [l177, nI_p, ix_nI (by omega), hS, en]
  refine tp_gd (ib_nI (by omega) (by decide)) (tp_lt ?_)
  refine tp_it (fun j s w' => s = nI j ∧ j ≤ n ∧ wI w' (o + 2) = walkS S p k sole j ∧ Kp (fun q => q = o + 2) w w') n (by omega) ⟨rfl, Nat.zero_le _, hS, Kp.refl⟩ (fun j s w' hI => ?_)
  obtain ⟨e, hj, hT, hK⟩ := hI
  subst e
  obtain ⟨low, -⟩ := walk_low (p := p) (k := k) hF hp sole j (by omega)
  refine tp_ite (fun hlt => ?_) (fun hlt => ?_)
  · have hjn : j < n := by
      by_cases q : j < n
      · exact q
      · exact absurd hlt (nnlt (by omega) (by omega))
    obtain ⟨t, et, ht, -⟩ := hw j hjn
    rw [l183, l41, nI_m, nI_p, nI_p, ix_nI (by omega), hT, low _ (by omega), et]
    refine tp_gd (ib_nI (by omega) (by decide)) (tp_lt (tp_jn ?_))
    have fin : ∀ dir, dir = dirS S k j → tp (gd (ib (2308 + (((6 * nI t) + nI p) * 9)) 10265) (gd (ib (2308 + (((6 * nI t) + nI p) * 9)) 10265) (stI w' (o + 2) (ix (2308 + (((6 * nI t) + nI p) * 9))) ((wI w' (o + 2) (ix (2308 + (((6 * nI t) + nI p) * 9)))) + 1) (fun w10 => gd (ib (1012 + (9 * nI t)) 10265) (gd (ib (7 + nI p) 10265) (gd (ib (1012 + (9 * nI t)) 10265) (stI w10 (o + 2) (ix (1012 + (9 * nI t))) ((wI w10 (o + 2) (ix (1012 + (9 * nI t)))) + (wI w10 (o + 2) (ix (7 + nI p)))) (fun w11 => gd (ib (436 + (4 * nI t)) 10265) (stI w11 (o + 2) (ix (436 + (4 * nI t))) (nI p + 1) (fun w12 => gd (ib ((436 + (4 * nI t)) + 1) 10265) (stI w12 (o + 2) (ix ((436 + (4 * nI t)) + 1)) sole (fun w13 => gd (ib ((436 + (4 * nI t)) + 2) 10265) (stI w13 (o + 2) (ix ((436 + (4 * nI t)) + 2)) dir (fun w14 => gd (ib 429 10265) (gd (ib ((436 + (4 * nI t)) + 3) 10265) (stI w14 (o + 2) (ix ((436 + (4 * nI t)) + 3)) (wI w14 (o + 2) (ix 429)) (fun w15 => lt (nI j + 1 : Int32) (fun v5_16 => some (((.inl v5_16 : Int32 ⊕ Unit)), w15))))))))))))))))))) (lpQ (fun s' w'' => j < n ∧ s' = nI (j + 1) ∧ j + 1 ≤ n ∧ wI w'' (o + 2) = walkS S p k sole (j + 1) ∧ Kp (fun q => q = o + 2) w w'') (fun _ w'' => wI w'' (o + 2) = goesS S p k sole ∧ Kp (fun q => q = o + 2) w w'')) := by
      intro dir hdir
      subst hdir
      rw [nI_s j, l2308, l6, l9, l1012, l436, l4, l7, l1, l2, l3, nI_m, nI_p, nI_m, nI_p, nI_m, nI_p, nI_m, nI_p, nI_p, nI_p, nI_p, nI_p, nI_p]
      refine tp_gd (ib_nI (by omega) (by decide)) (tp_gd (ib_nI (by omega) (by decide)) (tp_stI (tp_gd (ib_nI (by omega) (by decide)) (tp_gd (ib_nI (by omega) (by decide)) (tp_gd (ib_nI (by omega) (by decide)) (tp_stI (tp_gd (ib_nI (by omega) (by decide)) (tp_stI (tp_gd (ib_nI (by omega) (by decide)) (tp_stI (tp_gd (ib_nI (by omega) (by decide)) (tp_stI (tp_gd (ib_l (by decide) (by decide)) (tp_gd (ib_nI (by omega) (by decide)) (tp_stI (tp_lt (tp_on ⟨hjn, rfl, by omega, ?_, ?_⟩)))))))))))))))))
      · rw [ix_nI (by omega), ix_nI (by omega), ix_nI (by omega), ix_nI (by omega), ix_nI (by omega), ix_nI (by omega), ix_nI (by omega), ix_429]
        simp only [wI_up, hT]
        rw [up_o (show ¬ 1012 + 9 * t = 2308 + (6 * t + p) * 9 by omega), up_o (show ¬ 7 + p = 2308 + (6 * t + p) * 9 by omega)]
        rw [up_o (show ¬ 429 = 436 + 4 * t + 2 by omega), up_o (show ¬ 429 = 436 + 4 * t + 1 by omega), up_o (show ¬ 429 = 436 + 4 * t by omega), up_o (show ¬ 429 = 1012 + 9 * t by omega), up_o (show ¬ 429 = 2308 + (6 * t + p) * 9 by omega)]
        have e1 : walkS S p k sole (j + 1) = trodS (walkS S p k sole j) t p sole (dirS S k j) := by
          show trodS (walkS S p k sole j) (tN S k j) p sole (dirS S k j) = _
          unfold tN
          rw [et, ix_nI (by omega)]
        rw [e1]
        unfold trodS LI
        rw [show 436 + 4 * t + 1 = 437 + 4 * t by omega, show 436 + 4 * t + 2 = 438 + 4 * t by omega, show 436 + 4 * t + 3 = 439 + 4 * t by omega]
        rfl
      · exact (((((hK.sI rfl _ _).sI rfl _ _).sI rfl _ _).sI rfl _ _).sI rfl _ _).sI rfl _ _
    refine tp_ite (fun h1 => ?_) (fun h1 => ?_)
    · have hn : n = 1 := by
        by_cases q : n = 1
        · exact q
        · exact absurd h1 (n_eq (b := 1) (by omega) (by decide) q)
      exact fin 0 (by unfold dirS; rw [eln, if_pos hn])
    · have hn : ¬ n = 1 := fun q => h1 (n_eqt q)
      refine tp_ite (fun h2 => ?_) (fun h2 => ?_)
      · have h3 : j + 1 < n := by
          by_cases q : j + 1 < n
          · exact q
          · exact absurd h2 (by rw [nI_s]; exact nnlt (by omega) (by omega))
        have e : nI (183 + 41 * k + j) + 1 = nI (183 + 41 * k + (j + 1)) := nI_s _
        rw [e, ix_nI (by omega), low _ (by omega)]
        refine tp_gd (ib_nI (by omega) (by decide)) (tp_ce (y_db _ _ _) ?_)
        exact fin _ (by unfold dirS; rw [eln, if_neg hn, if_pos h3, et])
      · have h3 : ¬ j + 1 < n := fun q => h2 (by rw [nI_s]; exact nlt q (by omega))
        have e : nI (183 + 41 * k + j) - 1 = nI (183 + 41 * k + (j - 1)) := by
          rw [show 183 + 41 * k + (j - 1) = 183 + 41 * k + j - 1 by omega]
          exact pk_sub (b := 1) (by omega)
        rw [e, ix_nI (by omega), low _ (by omega)]
        refine tp_gd (ib_nI (by omega) (by decide)) (tp_ce (y_db _ _ _) ?_)
        exact fin _ (by unfold dirS; rw [eln, if_neg hn, if_neg h3, et])
  · have hjn : j = n := by
      by_cases q : j < n
      · exact absurd (nlt q (by omega)) hlt
      · omega
    subst hjn
    rw [l430, nI_p, ix_nI (by omega)]
    refine tp_gd (ib_nI (by omega) (by decide)) (tp_gd (ib_nI (by omega) (by decide)) (tp_stI (tp_out ⟨?_, hK.sI rfl _ _⟩)))
    rw [wI_up, hT]
    unfold goesS
    rw [eln]
end TP
