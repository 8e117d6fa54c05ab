/-! the TOKEN that is at hand: number i of m -/
def atB (n : Nat) (b : Nat → Nat) (lim m i : Nat) : Nat := if i < m then stB n b i else min n lim
def MK (n : Nat) (b : Nat → Nat) (lim m i : Nat) (w : Wd) : Prop := i ≤ m ∧ wI w 166 12 = nI (atB n b lim m i) ∧ (i < m → wI w 166 4 = nI (endB n b (stB n b i)) ∧ kvM (tokB n b (stB n b i)) (wI w 166 11) (wI w 166 14) (wL w 166 17)) ∧ (i = m → wI w 166 11 = (if lim < n then 4 else 0) ∧ ∃ p, p ≤ n ∧ min n lim ≤ skB n b p ∧ wI w 166 4 = nI p)
def XP (n : Nat) (b : Nat → Nat) (lim m i : Nat) (w : Wd) : Prop := XTs n b (min n lim) m w ∧ i ≤ m ∧ wI w 1 6 = nI i ∧ wI w 1 4 = bi (decide (lim < n))
def nextN (m i : Nat) : Nat := if i < m then i + 1 else i
section HE
variable {n lim m i : Nat} {b : Nat → Nat} {w w' : Wd}
theorem y_taken (hn : n ≤ 940) (hb : ∀ j, j < n → b j < 256) (hl : lim ≤ 940) (h : MT n b w) : tp (sh_190 166 (nI lim) w) (fun _ w' => MB n b lim w' ∧ wI w' 166 4 = nI 0 ∧ wI w' 166 2 = 0 ∧ Kp (fun q => q = 166) w w' ∧ Fm (fun j => 2 ≤ j ∧ j ≤ 5) w w') := by
  unfold sh_190
  rw [h.1]
  refine tp_stI (tp_stI (tp_stI (tp_stI (tp_some ⟨⟨hn, hl, ?_, wI_same, fun j hj => ⟨?_, hb j hj⟩⟩, ?_, ?_, (((kp0 (P := fun q => q = 166) rfl).sI rfl _ _).sI rfl _ _).sI rfl _ _, fun k hk => ?_⟩))))
  · rw [wI_other (by decide), wI_other (by decide), wI_other (by decide), wI_same]
  · rw [wI_row (by decide), wI_row (by decide), wI_row (by decide), wI_row (by decide)]; exact h.2 j hj
  · rw [wI_other (by decide), wI_same]; rfl
  · rw [wI_other (by decide), wI_other (by decide), wI_same]
  · rw [wI_other (by omega), wI_other (by omega), wI_other (by omega), wI_other (by omega)]
theorem NX.mk {p : Nat} (h : NX n b lim p w) (hT : TM n b (min n lim) m) (hi : i ≤ m) (es : stB n b i = skB n b p) (hp : p ≤ n) : MK n b lim m i w := by
  rcases h with ⟨h1, h2, h3, h4⟩ | ⟨h1, h2, h3, h4⟩
  · rw [← es] at h1 h2 h3 h4
    have him : i < m := by
      by_cases q : i < m
      · exact q
      · have : i = m := by omega
        subst this
        have := hT.2
        omega
    refine ⟨hi, ?_, fun _ => ⟨h3, h4⟩, fun q => by omega⟩
    unfold atB
    rw [if_pos him]; exact h2
  · have him : ¬ i < m := fun q => by
      have := hT.1 i q
      rw [es] at this
      omega
    have h5 := (ff_sp (fun i => blB (b i)) n p).2.1 hp
    have h6 := (ff_sp (fun i => blB (b i)) n (skB n b p)).1
    refine ⟨hi, ?_, fun q => absurd q him, fun _ => ⟨h4, skB n b p, h5, ?_, h3⟩⟩
    · unfold atB
      rw [if_neg him]; exact h2
    · exact Nat.le_trans h1 h6
theorem y_first (h : MB n b lim w) (e4 : wI w 166 4 = nI 0) (hT : TM n b (min n lim) m) : tp (sh_191 166 w) (fun _ w' => MK n b lim m 0 w' ∧ MB n b lim w' ∧ Kp (fun q => q = 166) w w' ∧ Fm nxF w w') :=
  tp_mono (y_next h (Nat.zero_le _) e4) (fun _ w' h' => ⟨h'.1.mk hT (Nat.zero_le _) rfl (Nat.zero_le _), h'.2⟩)
/-- the reference goes on -/
theorem y_go (h : MB n b lim w) (hK : MK n b lim m i w) (hT : TM n b (min n lim) m) : tp (sh_191 166 w) (fun _ w' => MK n b lim m (nextN m i) w' ∧ MB n b lim w' ∧ Kp (fun q => q = 166) w w' ∧ Fm nxF w w') := by
  obtain ⟨hi, h12, ha, hz⟩ := hK
  unfold nextN
  by_cases q : i < m
  · rw [if_pos q]
    have hlt := hT.1 i q
    have hg := endB_gt (b := b) (show stB n b i < n by omega)
    exact tp_mono (y_next h hg.2 (ha q).1) (fun _ w' h' => ⟨h'.1.mk hT (by omega) rfl hg.2, h'.2⟩)
  · rw [if_neg q]
    have him : i = m := by omega
    obtain ⟨-, p, hp, hr, e4⟩ := hz him
    refine tp_mono (y_next h hp e4) (fun _ w' h' => ⟨?_, h'.2⟩)
    rcases h'.1 with ⟨h1, -⟩ | ⟨h1, h2, h3, h4⟩
    · omega
    · have h5 := (ff_sp (fun i => blB (b i)) n p).2.1 hp
      have h6 := (ff_sp (fun i => blB (b i)) n (skB n b p)).1
      refine ⟨hi, ?_, fun y => absurd y q, fun _ => ⟨h4, skB n b p, h5, Nat.le_trans h1 h6, h3⟩⟩
      unfold atB
      rw [if_neg q]; exact h2
theorem y_bad (hK : MK n b lim m i w) (f : Int32) : sh_197 166 f w = some (false, sI (sI w 166 15 f) 166 16 (nI (atB n b lim m i))) := by
  unfold sh_197
  rw [stI_s, wI_other (by decide), hK.2.1, stI_s]
/-- the class goes on -/
theorem x_go (h : XP n b lim m i w) : tp (sh_37 1 w) (fun _ w' => XP n b lim m (nextN m i) w' ∧ Kp (fun q => q = 1) w w' ∧ Ft (fun j => j = 6) w w') := by
  obtain ⟨⟨h5, hm, hr, hT, ht, hz1, hz2⟩, hi, h6, h4⟩ := h
  unfold sh_37 nextN
  rw [h6, h5, show nI (m + 1) - 1 = nI m from n_sub (y := 1) (by omega)]
  refine tp_ite (fun z => ?_) (fun z => ?_)
  · have q := (nlt_i (by omega) (by omega)).mp z
    rw [nI_s, if_pos q]
    refine tp_stI (tp_some ⟨⟨⟨?_, hm, hr, hT, fun j hj => ?_, ?_, ?_⟩, by omega, wI_same, ?_⟩, kp0 (P := fun q => q = 1) rfl, fun k hk => wI_other hk⟩)
    · rw [wI_other (by decide)]; exact h5
    · rw [wI_row (by decide), wI_row (by decide), wL_sI']; exact ht j hj
    · rw [wI_row (by decide)]; exact hz1
    · rw [wI_row (by decide)]; exact hz2
    · rw [wI_other (by decide)]; exact h4
  · have q : ¬ i < m := fun y => z (nlt y (by omega))
    rw [if_neg q]
    exact tp_some ⟨⟨⟨h5, hm, hr, hT, ht, hz1, hz2⟩, hi, h6, h4⟩, Kp.refl, fun _ _ => rfl⟩
theorem x_at (h : XP n b lim m i w) : wI w 3 i = nI (atB n b lim m i) := by
  obtain ⟨⟨h5, hm, hr, hT, ht, hz1, hz2⟩, hi, h6, h4⟩ := h
  unfold atB
  by_cases q : i < m
  · rw [if_pos q]; exact (ht i q).1
  · rw [if_neg q, show i = m by omega]; exact hz1
theorem x_bad (h : XP n b lim m i w) (f : Int32) : sh_36 1 f w = some (false, sI (sI w 1 2 f) 1 3 (nI (atB n b lim m i))) := by
  have ha := x_at h
  obtain ⟨⟨h5, hm, hr, hT, ht, hz1, hz2⟩, hi, h6, h4⟩ := h
  unfold sh_36
  rw [stI_s, wI_other (by decide), h6, if_pos (n0le (by omega)), if_pos (show nI i ≤ 940 from nle (b := 940) (by omega) (by decide)), gd_nI (by omega) (by decide), ix_nI (by omega), wI_row (by decide), show wI w (1 + 2) i = _ from ha, stI_s]
theorem x_is (h : XP n b lim m i w) (k : Int32) : sh_31 1 k w = some (decide (wI w 4 i = k), w) := by
  obtain ⟨⟨h5, hm, hr, hT, ht, hz1, hz2⟩, hi, h6, h4⟩ := h
  unfold sh_31
  rw [h6, if_pos (n0le (by omega)), if_pos (show nI i ≤ 940 from nle (b := 940) (by omega) (by decide)), gd_nI (by omega) (by decide), ix_nI (by omega)]
  show (if wI w 4 i = k then _ else _) = _
  by_cases q : wI w 4 i = k
  · rw [if_pos q, decide_eq_true q]
  · rw [if_neg q, decide_eq_false q]
theorem x_value (h : XP n b lim m i w) : sh_34 1 w = some (wL w 5 i, w) := by
  obtain ⟨⟨h5, hm, hr, hT, ht, hz1, hz2⟩, hi, h6, h4⟩ := h
  unfold sh_34
  rw [h6, if_pos (n0le (by omega)), if_pos (show nI i ≤ 940 from nle (b := 940) (by omega) (by decide)), gd_nI (by omega) (by decide), ix_nI (by omega)]
end HE
