/-! what holds when both systems are made -/
theorem zofs_lt {c j o : Nat} (h : zofs c j = some o) : j < 60 ∧ c ≤ 10 := by
  unfold zofs at h
  split at h
  all_goals first
    | (cases h; done)
    | (exact ⟨by decide, by decide⟩)
def INI (w0 w : Wd) : Prop := TY w ∧ wx w = wx w0 ∧ wI w 1000 = wI w0 1000 ∧ wI w 1003 = wI w0 1003 ∧ (wR w 0 2 = some 7 ∧ wR w 0 3 = some 17 ∧ wR w 0 4 = some 27 ∧ wR w 0 5 = some 31) ∧
  (∀ k, k ∈ [0, 1, 7, 15, 27, 35, 36, 37, 42, 47] → ∀ j, wI w k j = 0) ∧ (∀ j, j < 144 → wI w 38 j = -1) ∧ (∀ j, ¬ j = 0 → wI w 48 j = 0) ∧ wI w 48 0 = -1 ∧ wI w 60 6 = 0 ∧ wI w 67 8 = 0 ∧
  (∀ j, ¬ j = 28 → wI w 166 j = 0) ∧ wI w 166 28 = -1 ∧ (∀ j, ¬ j = 6 → wI w 168 j = 0) ∧ wI w 168 6 = 9 ∧ (∀ j, wI w 190 j = 0) ∧ WRD w
theorem all_r {n : Nat} {f : Nat → Bool} (h : (List.range n).all f = true) {k : Nat} (hk : k < n) : f k = true := List.all_eq_true.mp h k (List.mem_range.mpr hk)
theorem made {w0 : Wd} (h0 : wn w0 = 0) : ∃ w1 w2, Ev 2 1 [.ref 0] (alc w0) none w1 ∧ wn w1 = 166 ∧ Ev 1 188 [.ref 166] (alc w1) none w2 ∧ wn w2 = 191 ∧ INI w0 (alc w2) := by
  have g1 := lini_1
  have g2 := lini_2
  split at g1
  · rename_i n1 i1 gg1 r1 e1
    split at g2
    · rename_i n2 i2 gg2 r2 e2
      have ev1 := mcall_ok (w0 := w0) 2 1 [.ref 0] _ _ _ e1
      have et : toW w0 (lalc (0, [], [], [])) = alc w0 := by
        rw [toW_alc]
        refine congrArg alc ?_
        exact Prod.ext h0.symm rfl
      rw [et] at ev1
      have ev2 := mcall_ok (w0 := toW w0 (n1, i1, gg1, r1)) 1 188 [.ref 166] _ _ _ e2
      unfold chk1 at g1
      unfold chk2 at g2
      rw [Bool.and_eq_true, Bool.and_eq_true, Bool.and_eq_true, Bool.and_eq_true, Bool.and_eq_true, Bool.and_eq_true, Bool.and_eq_true, Bool.and_eq_true, Bool.and_eq_true, Bool.and_eq_true, Bool.and_eq_true, Bool.and_eq_true, Bool.and_eq_true, Bool.and_eq_true, Bool.and_eq_true, Bool.and_eq_true, Bool.and_eq_true, Bool.and_eq_true] at g1
      rw [Bool.and_eq_true, Bool.and_eq_true, Bool.and_eq_true, Bool.and_eq_true, Bool.and_eq_true, Bool.and_eq_true, Bool.and_eq_true, Bool.and_eq_true, Bool.and_eq_true, Bool.and_eq_true, Bool.and_eq_true, Bool.and_eq_true] at g2
      obtain ⟨a1, a2, a3, a4, a5, a6, a7, a8, a9, a10, a11, a12, a13, a14, a15, a16, a17, a18, a19⟩ := g1
      obtain ⟨b1, b2, b3, b4, b5, b6, b7, b8, b9, b10, b11, b12, b13⟩ := g2
      have hn1 := beq_t a1
      have hn2 := beq_t b1
      subst hn1
      subst hn2
      have et2 : toW (toW w0 (166, i1, gg1, r1)) (lalc (166, [], [], [])) = alc (toW w0 (166, i1, gg1, r1)) := rfl
      rw [et2] at ev2
      generalize hw1 : toW w0 (166, i1, gg1, r1) = w1 at ev1 ev2
      generalize hw2 : toW w1 (191, i2, gg2, r2) = w2 at ev2
      have n1 : wn w1 = 166 := by rw [← hw1]; rfl
      have n2 : wn w2 = 191 := by rw [← hw2]; rfl
      -- readings
      have I1 : ∀ a b, wI w1 a b = lk 0 (wI w0) i1 a b := fun a b => by rw [← hw1]; rfl
      have R1 : ∀ a b, wR w1 a b = lk none (wR w0) r1 a b := fun a b => by rw [← hw1]; rfl
      have I2 : ∀ a b, wI w2 a b = lk 0 (wI w1) i2 a b := fun a b => by rw [← hw2]; rfl
      have R2 : ∀ a b, wR w2 a b = lk none (wR w1) r2 a b := fun a b => by rw [← hw2]; rfl
      have L2 : ∀ a b, wL w2 a b = lk 0 (wL w1) gg2 a b := fun a b => by rw [← hw2]; rfl
      have IA : ∀ a b, ¬ a = 191 → wI (alc w2) a b = wI w2 a b := fun a b h => by
        show (if a = wn w2 then 0 else wI w2 a b) = _
        rw [n2, if_neg h]
      have RA : ∀ a b, ¬ a = 191 → wR (alc w2) a b = wR w2 a b := fun a b h => by
        show (if a = wn w2 then none else wR w2 a b) = _
        rw [n2, if_neg h]
      have LA : ∀ a b, ¬ a = 191 → wL (alc w2) a b = wL w2 a b := fun a b h => by
        show (if a = wn w2 then 0 else wL w2 a b) = _
        rw [n2, if_neg h]
      have Ilow : ∀ a b, a < 166 → wI (alc w2) a b = lk 0 (wI w0) i1 a b := fun a b h => by
        rw [IA a b (by omega), I2, lk_none _ (all_r b3 h), I1]
      have Rlow : ∀ a b, a < 166 → wR (alc w2) a b = lk none (wR w0) r1 a b := fun a b h => by
        rw [RA a b (by omega), R2, lk_none _ (all_r b4 h), R1]
      have Rl : ∀ a b v, a < 166 → opN (lfd none r1 a b) v = true → wR (alc w2) a b = some v := fun a b v h q => by
        rw [Rlow a b h, lfd_lk _ (opN_t q)]
      have Il : ∀ a b v, a < 166 → lfd 0 i1 a b = some v → wI (alc w2) a b = v := fun a b v h q => by
        rw [Ilow a b h, lfd_lk _ q]
      have Ih : ∀ a b, ¬ a = 191 → wI (alc w2) a b = lk 0 (wI w1) i2 a b := fun a b h => by rw [IA a b h, I2]
      have hist : ∀ a c, a < 192 → (zsh a).1 = c → ist a c := fun a c h e => ⟨h, e⟩
      refine ⟨w1, w2, ev1, n1, ev2, n2, ⟨?_, ?_, ?_, ?_, ?_, ?_, ?_, ?_, ?_, ?_, ?_⟩, ?_, ?_, ?_, ⟨?_, ?_, ?_, ?_⟩, fun k hk j => ?_, fun j hj => ?_, fun j hj => ?_, ?_, ?_, ?_, fun j hj => ?_, ?_, fun j hj => ?_, ?_, fun j => ?_, fun j hj => ?_, fun k hk => ?_⟩
      · show wn w2 + 1 = 192
        rw [n2]
      · intro t c j o ht ho
        obtain ⟨hj, hc⟩ := zofs_lt ho
        by_cases q : t < 166
        · have := all_r (all_r a2 q) hj
          rw [ht.2, ho] at this
          exact Rl t j _ q this
        · by_cases q2 : t = 166
          · subst q2
            have ec : c = 10 := ht.2.symm
            subst ec
            have := all_r b2 hj
            rw [ho] at this
            rw [RA 166 j (by decide), R2, lfd_lk _ (opN_t this)]
          · have key : ∀ t, t < 192 → 166 < t → 10 < (zsh t).1 := by decide +kernel
            have := key t ht.1 (by omega)
            rw [ht.2] at this
            omega
      · exact Rl 6 0 1 (by decide) a3
      · exact ⟨7, Rl 0 2 7 (by decide) a4, hist 7 1 (by decide) (by decide +kernel)⟩
      · exact ⟨17, Rl 0 3 17 (by decide) a5, hist 17 1 (by decide) (by decide +kernel)⟩
      · exact ⟨27, Rl 0 4 27 (by decide) a6, hist 27 6 (by decide) (by decide +kernel)⟩
      · exact ⟨31, Rl 0 5 31 (by decide) a7, hist 31 6 (by decide) (by decide +kernel)⟩
      · exact fun k hk => Rl 43 k _ (by decide) (all_r a8 hk)
      · exact fun k hk => Rl 44 k _ (by decide) (all_r a9 hk)
      · exact fun k hk => Rl 45 k _ (by decide) (all_r a10 hk)
      · exact fun k hk => Rl 46 k _ (by decide) (all_r a11 hk)
      · show wx w2 = wx w0
        rw [← hw2, ← hw1]
        rfl
      · funext j
        rw [Ih 1000 j (by decide), lk_none _ b5, I1, lk_none _ a18]
      · funext j
        rw [Ih 1003 j (by decide), lk_none _ b6, I1, lk_none _ a19]
      · exact Rl 0 2 7 (by decide) a4
      · exact Rl 0 3 17 (by decide) a5
      · exact Rl 0 4 27 (by decide) a6
      · exact Rl 0 5 31 (by decide) a7
      · have h1 := List.all_eq_true.mp a12 k hk
        have h2 : k < 166 := by
          simp only [List.mem_cons, List.not_mem_nil, or_false] at hk
          omega
        rw [Ilow k j h2, lk_zz _ h1]
      · rw [Ilow 38 j (by decide), lk_zf hj _ a13]
      · rw [Ilow 48 j (by decide), lk_zx hj _ a14]
      · exact Il 48 0 _ (by decide) (of_decide_eq_true a15)
      · exact Il 60 6 _ (by decide) (of_decide_eq_true a16)
      · exact Il 67 8 _ (by decide) (of_decide_eq_true a17)
      · rw [Ih 166 j (by decide), lk_zx hj _ b7]
      · rw [Ih 166 28 (by decide), lfd_lk _ (of_decide_eq_true b8)]
      · rw [Ih 168 j (by decide), lk_zx hj _ b9]
      · rw [Ih 168 6 (by decide), lfd_lk _ (of_decide_eq_true b10)]
      · rw [Ih 190 j (by decide), lk_zz _ b11]
      · obtain ⟨k, hk, h⟩ := List.any_eq_true.mp (all_r b12 hj)
        exact ⟨k, List.mem_range.mp hk, by rw [LA 172 j (by decide), L2, lfd_lk _ (of_decide_eq_true h)]⟩
      · obtain ⟨j, hj, h⟩ := List.any_eq_true.mp (all_r b13 hk)
        exact ⟨j, List.mem_range.mp hj, by rw [LA 172 j (by decide), L2, lfd_lk _ (of_decide_eq_true h)]⟩
    · cases g2
  · cases g1
