/-! a NUMBER is taken -/
def tkA (n : Nat) (b : Nat → Nat) (m i : Nat) : Nat × List Nat := if i < m then tokB n b (stB n b i) else (0, [])
def numOk (t : Nat × List Nat) (lo hi : Int32) : Prop := t.1 = 2 ∧ lo ≤ nI (t.2.headD 0) ∧ nI (t.2.headD 0) ≤ hi
def numC (t : Nat × List Nat) : Int32 := if t.1 = 2 then 2 else 1
section NB
variable {n lim m i : Nat} {b : Nat → Nat} {w w' : Wd}
theorem numV_lt {p : Nat} : ∀ k, (∀ j, j < k → b (p + j) ≤ 57) → numV b p k < 10 ^ k := by
  intro k
  induction k with
  | zero => intro _; show 0 < 1; omega
  | succ k ih =>
    intro h
    have h1 := ih (fun j hj => h j (by omega))
    have h2 := h k (by omega)
    show numV b p k * 10 + (b (p + k) - 48) < _
    rw [Nat.pow_succ]
    omega
theorem cLet_0 {p : Nat} : ∀ k, cLet b p k = 0 → ∀ j, j < k → alB (b (p + j)) = false := by
  intro k
  induction k with
  | zero => intro _ j hj; omega
  | succ k ih =>
    intro h j hj
    have ec : cLet b p (k + 1) = cLet b p k + if alB (b (p + k)) = true then 1 else 0 := rfl
    rw [ec] at h
    by_cases q : j = k
    · rw [q]
      cases y : alB (b (p + k)) with
      | false => rfl
      | true => rw [y, if_pos rfl] at h; omega
    · exact ih (by omega) j (by omega)
theorem tok_num {p : Nat} (h : (tokB n b p).1 = 2) : (tokB n b p).2.headD 0 < 1000 := by
  unfold tokB at h ⊢
  by_cases hg : goB (b p) = true
  · rw [if_pos hg] at h ⊢
    by_cases c1 : cLet b p (reB n b p - p) = reB n b p - p ∧ reB n b p - p ≤ 7
    · rw [if_pos c1] at h; cases h
    · rw [if_neg c1] at h ⊢
      by_cases c2 : cLet b p (reB n b p - p) = 0 ∧ reB n b p - p ≤ 3
      · rw [if_pos c2]
        show numV b p (reB n b p - p) < 1000
        have h1 : numV b p (reB n b p - p) < 10 ^ (reB n b p - p) := numV_lt _ (fun j hj => by
          have a1 := cLet_0 _ c2.1 j hj
          have a2 := (ff_sp (fun i => goB (b i)) n p).2.2.2 (p + j) (by omega) (by unfold reB at hj; omega)
          unfold goB at a2
          rw [a1, Bool.false_or] at a2
          unfold dgB at a2
          simp at a2
          omega)
        have h2 : (10 : Nat) ^ (reB n b p - p) ≤ 10 ^ 3 := Nat.pow_le_pow_right (by decide) c2.2
        omega
      · rw [if_neg c2] at h; cases h
  · rw [if_neg hg] at h
    by_cases c3 : sgB (b p) = true
    · rw [if_pos c3] at h; cases h
    · rw [if_neg c3] at h; cases h
theorem tkA_num (h : (tkA n b m i).1 = 2) : (tkA n b m i).2.headD 0 < 1000 := by
  unfold tkA at h ⊢
  by_cases q : i < m
  · rw [if_pos q] at h ⊢; exact tok_num h
  · rw [if_neg q] at h; cases h
theorem x_kind (h : XP n b lim m i w) : ((tkA n b m i).1 = 0 ∧ i = m ∧ wI w 4 i = 0) ∨ kvX (tkA n b m i) (wI w 4 i) (wL w 5 i) := by
  obtain ⟨⟨h5, hm, hr, hT, ht, hz1, hz2⟩, hi, h6, h4⟩ := h
  unfold tkA
  by_cases q : i < m
  · rw [if_pos q]; exact Or.inr (ht i q).2
  · rw [if_neg q]
    have : i = m := by omega
    exact Or.inl ⟨rfl, this, by rw [this]; exact hz2⟩
theorem y_kind (h : MK n b lim m i w) : ((tkA n b m i).1 = 0 ∧ i = m ∧ wI w 166 11 = if lim < n then 4 else 0) ∨ kvM (tkA n b m i) (wI w 166 11) (wI w 166 14) (wL w 166 17) := by
  obtain ⟨hi, h12, ha, hz⟩ := h
  unfold tkA
  by_cases q : i < m
  · rw [if_pos q]; exact Or.inr (ha q).2
  · rw [if_neg q]
    have : i = m := by omega
    exact Or.inl ⟨rfl, this, (hz this).1⟩
theorem x_isNum (h : XP n b lim m i w) : (wI w 4 i = 3 ↔ (tkA n b m i).1 = 2) ∧ ((tkA n b m i).1 = 2 → (wL w 5 i).toInt32 = nI ((tkA n b m i).2.headD 0)) := by
  rcases x_kind h with ⟨h0, -, hk⟩ | ⟨h1, hk⟩ | ⟨h1, hk, hv⟩ | ⟨h1, hk, hv⟩ | ⟨h1, hk⟩
  · rw [h0, hk]; exact ⟨⟨fun z => absurd z (by decide), fun z => absurd z (by decide)⟩, fun z => absurd z (by decide)⟩
  · rw [h1]
    refine ⟨⟨fun z => ?_, fun z => absurd z (by decide)⟩, fun z => absurd z (by decide)⟩
    rcases hk with ⟨hk, -⟩ | ⟨_, _, hk, -⟩
    · rw [hk] at z; exact absurd z (by decide)
    · rw [hk] at z; exact absurd z (by decide)
  · refine ⟨⟨fun _ => h1, fun _ => hk⟩, fun _ => ?_⟩
    have := tkA_num h1
    rw [hv, nI_l (by omega), lN_i]
  · rw [h1, hk]; exact ⟨⟨fun z => absurd z (by decide), fun z => absurd z (by decide)⟩, fun z => absurd z (by decide)⟩
  · rw [h1, hk]; exact ⟨⟨fun z => absurd z (by decide), fun z => absurd z (by decide)⟩, fun z => absurd z (by decide)⟩
theorem y_isNum (h : MK n b lim m i w) : (wI w 166 11 = 2 ↔ (tkA n b m i).1 = 2) ∧ ((tkA n b m i).1 = 2 → wI w 166 14 = nI ((tkA n b m i).2.headD 0)) := by
  rcases y_kind h with ⟨h0, -, hk⟩ | ⟨h1, hk, -⟩ | ⟨h1, hk, hv⟩ | ⟨h1, hk, hv⟩ | ⟨h1, hk⟩
  · rw [h0, hk]
    refine ⟨⟨fun z => ?_, fun z => absurd z (by decide)⟩, fun z => absurd z (by decide)⟩
    split at z <;> exact absurd z (by decide)
  · rw [h1, hk]; exact ⟨⟨fun z => absurd z (by decide), fun z => absurd z (by decide)⟩, fun z => absurd z (by decide)⟩
  · exact ⟨⟨fun _ => h1, fun _ => hk⟩, fun _ => hv⟩
  · rw [h1, hk]; exact ⟨⟨fun z => absurd z (by decide), fun z => absurd z (by decide)⟩, fun z => absurd z (by decide)⟩
  · rw [h1, hk]; exact ⟨⟨fun z => absurd z (by decide), fun z => absurd z (by decide)⟩, fun z => absurd z (by decide)⟩
/-- what a fault leaves -/
def xBad (f : Int32) (a : Nat) (w : Wd) : Wd := sI (sI w 1 2 f) 1 3 (nI a)
def yBad (f : Int32) (a : Nat) (w : Wd) : Wd := sI (sI w 166 15 f) 166 16 (nI a)
theorem x_number_ok (h : XP n b lim m i w) {lo hi : Int32} (ho : numOk (tkA n b m i) lo hi) : sh_39 1 lo hi w = some (nI ((tkA n b m i).2.headD 0), w) := by
  obtain ⟨o1, o2, o3⟩ := ho
  obtain ⟨k1, k2⟩ := x_isNum h
  unfold sh_39
  rw [cl_e (x_is h 3), jn_s, decide_eq_true (k1.mpr o1), if_pos rfl, cl_e (x_value h)]
  rw [k2 o1]
  show jn _ _ = _
  rw [jn_s, if_pos o2, if_neg (by rw [i_lt]; rw [i_le] at o3; omega)]
theorem x_number_no (h : XP n b lim m i w) {lo hi : Int32} (h0 : 0 ≤ lo) (hn : ¬ numOk (tkA n b m i) lo hi) : sh_39 1 lo hi w = some (-1, xBad (numC (tkA n b m i)) (atB n b lim m i) w) := by
  obtain ⟨k1, k2⟩ := x_isNum h
  unfold sh_39
  rw [cl_e (x_is h 3), jn_s]
  have bad : ∀ t : Int32, (if t = -1 then (1 : Int32) else 2) = numC (tkA n b m i) → (lt (if t = (-1) then 1 else 2 : Int32) (fun z8 => cl (sh_36 1 z8 w) (fun r10 w9 => some ((-1 : Int32), w9)))) = some (-1, xBad (numC (tkA n b m i)) (atB n b lim m i) w) := fun t ht => by
    unfold lt
    rw [ht]
    show cl (sh_36 1 (numC (tkA n b m i)) w) _ = _
    rw [cl_e (x_bad h _)]; rfl
  by_cases q : (tkA n b m i).1 = 2
  · rw [decide_eq_true (k1.mpr q), if_pos rfl, cl_e (x_value h), k2 q]
    show jn _ _ = _
    have hv := tkA_num q
    have ht : (if nI ((tkA n b m i).2.headD 0) = -1 then (1 : Int32) else 2) = numC (tkA n b m i) := by
      unfold numC
      rw [if_pos q, if_neg (by rw [i_eq, i_nI (by omega)]; show ¬ (((tkA n b m i).2.headD 0 : Nat) : Int) = -1; omega)]
    rw [jn_s]
    by_cases q2 : lo ≤ nI ((tkA n b m i).2.headD 0)
    · rw [if_pos q2]
      by_cases q3 : hi < nI ((tkA n b m i).2.headD 0)
      · rw [if_pos q3]; exact bad _ ht
      · exact absurd ⟨q, q2, by rw [i_le]; rw [i_lt] at q3; omega⟩ hn
    · rw [if_neg q2]; exact bad _ ht
  · rw [decide_eq_false (fun z => q (k1.mp z)), if_neg (by decide)]
    show jn _ _ = _
    rw [jn_s, if_neg (show ¬ lo ≤ -1 by rw [i_le]; rw [i_le] at h0; show ¬ lo.toInt ≤ -1; have : (0 : Int32).toInt = 0 := rfl; omega)]
    exact bad _ (by unfold numC; rw [if_pos rfl, if_neg q])
/-- a NUMBER taken, a NUMBER refused -/
theorem x_take (h : XP n b lim m i w) {lo hi : Int32} (ho : numOk (tkA n b m i) lo hi) : tp (sh_38 1 lo hi w) (fun v w' => v = nI ((tkA n b m i).2.headD 0) ∧ XP n b lim m (nextN m i) w' ∧ Kp (fun q => q = 1) w w' ∧ Ft (fun j => j = 6) w w') := by
  have hv := tkA_num ho.1
  unfold sh_38
  refine tp_ce (x_number_ok h ho) (tp_ifn (by rw [i_eq, i_nI (by omega)]; show ¬ (((tkA n b m i).2.headD 0 : Nat) : Int) = -1; omega) (tp_cl (x_go h) (fun _ w1 h1 => tp_some ⟨rfl, h1⟩)))
theorem x_take_no (h : XP n b lim m i w) {lo hi : Int32} (h0 : 0 ≤ lo) (hn : ¬ numOk (tkA n b m i) lo hi) : sh_38 1 lo hi w = some (-1, xBad (numC (tkA n b m i)) (atB n b lim m i) w) := by
  unfold sh_38
  rw [cl_e (x_number_no h h0 hn), if_pos rfl]
theorem y_take (hB : MB n b lim w) (h : MK n b lim m i w) (hT : TM n b (min n lim) m) {lo hi : Int32} (ho : numOk (tkA n b m i) lo hi) : tp (sh_198 166 lo hi w) (fun v w' => v = true ∧ wI w' 166 18 = nI ((tkA n b m i).2.headD 0) ∧ MK n b lim m (nextN m i) w' ∧ MB n b lim w' ∧ Kp (fun q => q = 166) w w' ∧ Fm (fun j => nxF j ∨ j = 18) w w') := by
  obtain ⟨o1, o2, o3⟩ := ho
  obtain ⟨k1, k2⟩ := y_isNum h
  unfold sh_198
  refine tp_if (k1.mpr o1) (tp_ce (y_isIn _ _ _ _) (tp_if ?_ (tp_stI ?_)))
  · rw [k2 o1, decide_eq_true o2, decide_eq_true o3]; rfl
  · have hK1 : Kp (fun q => q = 166) w (sI w 166 18 (wI w 166 14)) := kp0 (P := fun q => q = 166) rfl
    have hF1 : Fm (fun j => nxF j ∨ j = 18) w (sI w 166 18 (wI w 166 14)) := fun j hj => wI_other (by omega)
    have hM : MK n b lim m i (sI w 166 18 (wI w 166 14)) := by
      obtain ⟨a1, a2, a3, a4⟩ := h
      refine ⟨a1, by rw [wI_other (by decide)]; exact a2, fun q => ?_, fun q => ?_⟩
      · rw [wI_other (by decide), wI_other (by decide), wI_other (by decide), wL_sI']; exact a3 q
      · rw [wI_other (by decide), wI_other (by decide)]; exact a4 q
    refine tp_cl (y_go (hB.fm hF1 hK1 (by unfold nxF; omega) (by unfold nxF; omega)) hM hT) (fun _ w2 h2 => tp_some ⟨rfl, ?_, h2.1, h2.2.1, hK1.trans h2.2.2.1, fun j hj => ?_⟩)
    · rw [h2.2.2.2 18 (by unfold nxF; omega), wI_same, k2 o1]
    · rw [h2.2.2.2 j (fun y => hj (Or.inl y))]; exact hF1 j hj
theorem y_take_no (h : MK n b lim m i w) {lo hi : Int32} (hn : ¬ numOk (tkA n b m i) lo hi) : sh_198 166 lo hi w = some (false, yBad (numC (tkA n b m i)) (atB n b lim m i) w) := by
  obtain ⟨k1, k2⟩ := y_isNum h
  unfold sh_198 numC yBad
  by_cases q : (tkA n b m i).1 = 2
  · rw [if_pos (k1.mpr q), if_pos q, cl_e (y_isIn _ _ _ _), if_neg, cl_e (y_bad h 2)]
    rw [k2 q]
    intro z
    rw [Bool.and_eq_true, decide_eq_true_eq, decide_eq_true_eq] at z
    exact hn ⟨q, z.1, z.2⟩
  · rw [if_neg (fun z => q (k1.mp z)), if_neg q, cl_e (y_bad h 1)]
end NB
