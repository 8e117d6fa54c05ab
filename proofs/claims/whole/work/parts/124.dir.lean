/-! a DIR at hand -/
def drR (t : Nat × List Nat) (v : Int32) : Prop := (∃ d, d < 4 ∧ v = nI d ∧ wdOk t (6 + d)) ∨ (v = -1 ∧ ∀ d, d < 4 → ¬ wdOk t (6 + d))
theorem zwd_d : ∀ j, j < 20 → (∃ d, d < 4 ∧ j = 6 + d ∧ zwd j = nI d) ∨ ((∀ d, d < 4 → ¬ j = 6 + d) ∧ zwd j = -1) := by decide
theorem w110 : (110 : Int64) = lN (en8 (wdL 6)) := by decide
theorem w101 : (101 : Int64) = lN (en8 (wdL 7)) := by decide
theorem w115 : (115 : Int64) = lN (en8 (wdL 8)) := by decide
theorem w119 : (119 : Int64) = lN (en8 (wdL 9)) := by decide
section DI
variable {n lim m i : Nat} {b : Nat → Nat} {w w' : Wd}
theorem x_dirHere (h : XP n b lim m i w) : tp (sh_53 1 w) (fun v w' => w' = w ∧ drR (tkA n b m i) v) := by
  unfold sh_53
  refine tp_cl (x_wordHere h) (fun r w1 h1 => ?_)
  obtain ⟨ew, hr⟩ := h1
  rw [ew]
  rcases hr with ⟨j, hj, er, hw⟩ | ⟨er, hno⟩
  · rw [er]
    refine tp_gd (decide_eq_true (by omega)) (tp_some ⟨rfl, ?_⟩)
    rw [Nat.add_sub_cancel_left]
    rcases zwd_d j hj with ⟨d, hd, ej, ez⟩ | ⟨hn, ez⟩
    · exact Or.inl ⟨d, hd, ez, by rw [← ej]; exact hw⟩
    · exact Or.inr ⟨ez, fun d hd hw2 => hn d hd (wdL_inj j hj (6 + d) (by omega) (by rw [← hw.2, ← hw2.2]))⟩
  · rw [er]
    exact tp_some ⟨rfl, Or.inr ⟨rfl, fun d hd => hno (6 + d) (by omega)⟩⟩
theorem y_dirHere (h : MK n b lim m i w) (hT : TM n b (min n lim) m) : tp (sh_206 166 w) (fun v w' => w' = w ∧ drR (tkA n b m i) v) := by
  unfold sh_206
  rw [w110, w101, w115, w119]
  refine tp_cl (y_isWord h hT (by decide)) (fun r w1 h1 => ?_)
  obtain ⟨e1, h1⟩ := h1
  rw [e1]
  refine tp_ite (fun z => tp_some ⟨rfl, Or.inl ⟨0, by decide, rfl, h1.mp z⟩⟩) (fun z1 => ?_)
  refine tp_cl (y_isWord h hT (by decide)) (fun r2 w2 h2 => ?_)
  obtain ⟨e2, h2⟩ := h2
  rw [e2]
  refine tp_ite (fun z => tp_some ⟨rfl, Or.inl ⟨1, by decide, rfl, h2.mp z⟩⟩) (fun z2 => ?_)
  refine tp_cl (y_isWord h hT (by decide)) (fun r3 w3 h3 => ?_)
  obtain ⟨e3, h3⟩ := h3
  rw [e3]
  refine tp_ite (fun z => tp_some ⟨rfl, Or.inl ⟨2, by decide, rfl, h3.mp z⟩⟩) (fun z3 => ?_)
  refine tp_cl (y_isWord h hT (by decide)) (fun r4 w4 h4 => ?_)
  obtain ⟨e4, h4⟩ := h4
  rw [e4]
  refine tp_ite (fun z => tp_some ⟨rfl, Or.inl ⟨3, by decide, rfl, h4.mp z⟩⟩) (fun z4 => ?_)
  refine tp_some ⟨rfl, Or.inr ⟨rfl, fun d hd hw => ?_⟩⟩
  have : d = 0 ∨ d = 1 ∨ d = 2 ∨ d = 3 := by omega
  rcases this with q | q | q | q <;> subst q
  · exact z1 (h1.mpr hw)
  · exact z2 (h2.mpr hw)
  · exact z3 (h3.mpr hw)
  · exact z4 (h4.mpr hw)
end DI
