/-! a sign is taken; the end -/
def sgOk (t : Nat × List Nat) (c : Nat) : Bool := decide (t.1 = 3) && decide (t.2.headD 0 = c)
section SG
variable {n lim m i : Nat} {b : Nat → Nat} {w w' : Wd}
theorem tok_sgn {p : Nat} (h : (tokB n b p).1 = 3) : 40 ≤ (tokB n b p).2.headD 0 ∧ (tokB n b p).2.headD 0 ≤ 62 := by
  unfold tokB at h ⊢
  by_cases hg : goB (b p) = true
  · rw [if_pos hg] at h
    by_cases c1 : cLet b p (reB n b p - p) = reB n b p - p ∧ reB n b p - p ≤ 7
    · rw [if_pos c1] at h; cases h
    · rw [if_neg c1] at h
      by_cases c2 : cLet b p (reB n b p - p) = 0 ∧ reB n b p - p ≤ 3
      · rw [if_pos c2] at h; cases h
      · rw [if_neg c2] at h; cases h
  · rw [if_neg hg] at h ⊢
    by_cases c3 : sgB (b p) = true
    · rw [if_pos c3]
      show 40 ≤ b p ∧ b p ≤ 62
      unfold sgB at c3
      simp at c3
      omega
    · rw [if_neg c3] at h; cases h
theorem tkA_sgn (h : (tkA n b m i).1 = 3) : 40 ≤ (tkA n b m i).2.headD 0 ∧ (tkA n b m i).2.headD 0 ≤ 62 := by
  unfold tkA at h ⊢
  by_cases q : i < m
  · rw [if_pos q] at h ⊢; exact tok_sgn h
  · rw [if_neg q] at h; cases h
theorem x_isSgn (h : XP n b lim m i w) : (wI w 4 i = 4 ↔ (tkA n b m i).1 = 3) ∧ ((tkA n b m i).1 = 3 → (wL w 5 i).toInt32 = nI ((tkA n b m i).2.headD 0)) := by
  rcases x_kind h with ⟨h0, -, hk⟩ | ⟨h1, hk⟩ | ⟨h1, hk, hv⟩ | ⟨h1, hk, hv⟩ | ⟨h1, hk⟩
  · rw [h0, hk]; exact ⟨⟨fun z => absurd z (by decide), fun z => absurd z (by decide)⟩, fun z => absurd z (by decide)⟩
  · rw [h1]
    refine ⟨⟨fun z => ?_, fun z => absurd z (by decide)⟩, fun z => absurd z (by decide)⟩
    rcases hk with ⟨hk, -⟩ | ⟨_, _, hk, -⟩
    · rw [hk] at z; exact absurd z (by decide)
    · rw [hk] at z; exact absurd z (by decide)
  · rw [h1, hk]; exact ⟨⟨fun z => absurd z (by decide), fun z => absurd z (by decide)⟩, fun z => absurd z (by decide)⟩
  · refine ⟨⟨fun _ => h1, fun _ => hk⟩, fun _ => ?_⟩
    have := tkA_sgn h1
    rw [hv, nI_l (by omega), lN_i]
  · rw [h1, hk]; exact ⟨⟨fun z => absurd z (by decide), fun z => absurd z (by decide)⟩, fun z => absurd z (by decide)⟩
theorem y_isSgn (h : MK n b lim m i w) : (wI w 166 11 = 3 ↔ (tkA n b m i).1 = 3) ∧ ((tkA n b m i).1 = 3 → wI w 166 14 = nI ((tkA n b m i).2.headD 0)) := by
  rcases y_kind h with ⟨h0, -, hk⟩ | ⟨h1, hk, -⟩ | ⟨h1, hk, hv⟩ | ⟨h1, hk, hv⟩ | ⟨h1, hk⟩
  · rw [h0, hk]
    refine ⟨⟨fun z => ?_, fun z => absurd z (by decide)⟩, fun z => absurd z (by decide)⟩
    split at z <;> exact absurd z (by decide)
  · rw [h1, hk]; exact ⟨⟨fun z => absurd z (by decide), fun z => absurd z (by decide)⟩, fun z => absurd z (by decide)⟩
  · rw [h1, hk]; exact ⟨⟨fun z => absurd z (by decide), fun z => absurd z (by decide)⟩, fun z => absurd z (by decide)⟩
  · exact ⟨⟨fun _ => h1, fun _ => hk⟩, fun _ => hv⟩
  · rw [h1, hk]; exact ⟨⟨fun z => absurd z (by decide), fun z => absurd z (by decide)⟩, fun z => absurd z (by decide)⟩
theorem x_signHere (h : XP n b lim m i w) : sh_59 1 w = some (if (tkA n b m i).1 = 3 then nI ((tkA n b m i).2.headD 0) else 0, w) := by
  obtain ⟨k1, k2⟩ := x_isSgn h
  unfold sh_59
  rw [cl_e (x_is h 4)]
  by_cases q : (tkA n b m i).1 = 3
  · rw [decide_eq_true (k1.mpr q), if_pos rfl, if_pos q, cl_e (x_value h), k2 q]
  · rw [decide_eq_false (fun z => q (k1.mp z)), if_neg (by decide), if_neg q]
theorem sg_eq {c : Nat} (hc : 1 ≤ c) (h9 : c ≤ 62) : ((if (tkA n b m i).1 = 3 then nI ((tkA n b m i).2.headD 0) else 0) = nI c) ↔ sgOk (tkA n b m i) c = true := by
  unfold sgOk
  rw [Bool.and_eq_true, decide_eq_true_eq, decide_eq_true_eq]
  by_cases q : (tkA n b m i).1 = 3
  · have := tkA_sgn q
    rw [if_pos q]
    exact ⟨fun z => ⟨q, (nI_eq (by omega) (by omega)).mp z⟩, fun z => by rw [z.2]⟩
  · rw [if_neg q]
    refine ⟨fun z => ?_, fun z => absurd z.1 q⟩
    exact absurd z (n_ne (a := 0) (by omega) (by decide) (by omega))
theorem x_sign_ok (h : XP n b lim m i w) {c : Nat} (hc : 1 ≤ c) (h9 : c ≤ 62) (ho : sgOk (tkA n b m i) c = true) : tp (sh_58 1 (nI c) w) (fun v w' => v = true ∧ XP n b lim m (nextN m i) w' ∧ Kp (fun q => q = 1) w w' ∧ Ft (fun j => j = 6) w w') := by
  unfold sh_58
  exact tp_ce (x_signHere h) (tp_if ((sg_eq hc h9).mpr ho) (tp_cl (x_go h) (fun _ w1 h1 => tp_some ⟨rfl, h1⟩)))
theorem x_sign_bad (h : XP n b lim m i w) {c : Nat} (hc : 1 ≤ c) (h9 : c ≤ 62) (ho : sgOk (tkA n b m i) c = false) : sh_58 1 (nI c) w = some (false, xBad 1 (atB n b lim m i) w) := by
  unfold sh_58
  rw [cl_e (x_signHere h), if_neg (fun z => by rw [(sg_eq hc h9).mp z] at ho; cases ho), cl_e (x_bad h 1)]; rfl
theorem y_signHere (h : MK n b lim m i w) {c : Nat} (h9 : c ≤ 62) : sh_205 166 (nI c) w = some (sgOk (tkA n b m i) c, w) := by
  obtain ⟨k1, k2⟩ := y_isSgn h
  unfold sh_205 lt sgOk
  by_cases q : (tkA n b m i).1 = 3
  · have := tkA_sgn q
    rw [if_pos (k1.mpr q), decide_eq_true q, k2 q, Bool.true_and]
    by_cases y : (tkA n b m i).2.headD 0 = c
    · rw [decide_eq_true y, y, if_pos rfl]
    · rw [decide_eq_false y, if_neg (n_ne y (by omega) (by omega))]
  · rw [if_neg (fun z => q (k1.mp z)), decide_eq_false q, Bool.false_and]
theorem y_sign_ok (hB : MB n b lim w) (h : MK n b lim m i w) (hT : TM n b (min n lim) m) {c : Nat} (h9 : c ≤ 62) (ho : sgOk (tkA n b m i) c = true) : tp (sh_208 166 (nI c) w) (fun v w' => v = true ∧ MK n b lim m (nextN m i) w' ∧ MB n b lim w' ∧ Kp (fun q => q = 166) w w' ∧ Fm nxF w w') := by
  unfold sh_208
  refine tp_ce (y_signHere h h9) (tp_if ho (tp_cl (y_go hB h hT) (fun _ w1 h1 => tp_some ⟨rfl, h1⟩)))
theorem y_sign_bad (h : MK n b lim m i w) {c : Nat} (h9 : c ≤ 62) (ho : sgOk (tkA n b m i) c = false) : sh_208 166 (nI c) w = some (false, yBad 1 (atB n b lim m i) w) := by
  unfold sh_208
  rw [cl_e (y_signHere h h9), ho, if_neg (by decide), cl_e (y_bad h 1)]; rfl
/-- the end -/
theorem x_atEnd (h : XP n b lim m i w) : sh_30 1 w = some (decide (i = m), w) := by
  unfold sh_30
  rw [cl_e (x_is h 0)]
  congr 2
  rcases x_kind h with ⟨-, h0, hk⟩ | hk
  · rw [hk, decide_eq_true h0]; rfl
  · have hne : ¬ i = m := fun q => by
      unfold kvX tkA at hk
      rw [if_neg (by omega)] at hk
      rcases hk with ⟨z, -⟩ | ⟨z, -⟩ | ⟨z, -⟩ | ⟨z, -⟩ <;> exact absurd z (by decide)
    rw [decide_eq_false hne]
    apply decide_eq_false
    intro z
    rw [z] at hk
    rcases hk with ⟨-, ⟨y, -⟩ | ⟨_, _, y, -⟩⟩ | ⟨-, y, -⟩ | ⟨-, y, -⟩ | ⟨-, y⟩ <;> exact absurd y (by decide)
theorem y_atEnd (h : MK n b lim m i w) : wI w 166 11 = 0 ↔ (i = m ∧ ¬ lim < n) := by
  rcases y_kind h with ⟨-, h0, hk⟩ | hk
  · rw [hk]
    by_cases q : lim < n
    · rw [if_pos q]; exact ⟨fun z => absurd z (by decide), fun z => absurd q z.2⟩
    · rw [if_neg q]; exact ⟨fun _ => ⟨h0, q⟩, fun _ => rfl⟩
  · refine ⟨fun z => ?_, fun z => ?_⟩
    · rw [z] at hk
      rcases hk with ⟨-, y, -⟩ | ⟨-, y, -⟩ | ⟨-, y, -⟩ | ⟨-, y⟩ <;> exact absurd y (by decide)
    · unfold kvM tkA at hk
      rw [if_neg (by omega)] at hk
      rcases hk with ⟨y, -⟩ | ⟨y, -⟩ | ⟨y, -⟩ | ⟨y, -⟩ <;> exact absurd y (by decide)
theorem x_ends (h : XP n b lim m i w) : sh_60 1 w = if i = m ∧ ¬ lim < n then some (true, w) else some (false, xBad 1 (atB n b lim m i) w) := by
  unfold sh_60
  rw [cl_e (x_atEnd h), jn_s, h.2.2.2]
  by_cases q : i = m
  · rw [decide_eq_true q, if_pos rfl]
    by_cases y : lim < n
    · rw [decide_eq_true y, if_neg (show ¬ bi true = 0 by decide), if_neg (fun z => z.2 y)]
      show cl (sh_36 1 1 w) _ = _
      rw [cl_e (x_bad h 1)]; rfl
    · rw [decide_eq_false y, if_pos (show bi false = 0 by decide), if_pos ⟨q, y⟩]
  · rw [decide_eq_false q, if_neg (by decide), if_neg (fun z => q z.1)]
    show cl (sh_36 1 1 w) _ = _
    rw [cl_e (x_bad h 1)]; rfl
end SG
