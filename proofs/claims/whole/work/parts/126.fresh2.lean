section FM2
variable {n lim m i s P Y : Nat} {b : Nat → Nat} {f g : Nat → List Nat} {w w' : Wd}
theorem y_fresh_no (h : MK n b lim m i w) (hT : TM n b (min n lim) m) (hW : WRD w) (e2 : wI w 169 2 = nI P) (hP : P ≤ 6) (hf : ∀ k, k < P → okL (f k) ∧ wL w 171 (12 + k) = lN (en8 (f k))) (e3 : wI w 169 3 = nI Y) (hY : Y ≤ 6) (hg : ∀ k, k < Y → okL (g k) ∧ wL w 171 (18 + k) = lN (en8 (g k))) (hn : ¬ (nmOk (tkA n b m i) ∧ newL P Y f g (tkA n b m i).2)) : tp (sh_200 166 (nI s) w) (fun v w' => v = false ∧ w' = yBad (nmC (tkA n b m i)) (atB n b lim m i) w) := by
  unfold sh_200 nmC
  refine tp_cl (y_isName h hT hW) (fun v w1 h1 => ?_)
  obtain ⟨e1, h1⟩ := h1
  rw [e1]
  refine tp_ite (fun z => ?_) (fun z => ?_)
  · have ho := h1.mp z
    have hl := tkA_wd hT ho.1
    rw [if_pos ho]
    refine tp_gd (by decide) ?_
    rw [show wI w (166 + 3) (ix 2) = nI P from e2]
    refine tp_cl (y_find (g := 12) hP (by decide) (y_word17 h ho.1).2 hf hl) (fun v2 w2 h2 => ?_)
    obtain ⟨e4, h2⟩ := h2
    rw [e4]
    refine tp_ite (fun z2 => ?_) (fun _ => tp_ce (y_bad h 3) (tp_some ⟨rfl, rfl⟩))
    refine tp_gd (by decide) ?_
    rw [show wI w (166 + 3) (ix 3) = nI Y from e3]
    refine tp_cl (y_find (g := 18) hY (by decide) (y_word17 h ho.1).2 hg hl) (fun v3 w3 h3 => ?_)
    obtain ⟨e5, h3⟩ := h3
    rw [e5]
    refine tp_if ?_ (tp_ce (y_bad h 3) (tp_some ⟨rfl, rfl⟩))
    have q1 := (fd_no h2 hP).1.mp ((fd_no h2 hP).2.mp z2)
    rcases h3 with ⟨-, hno⟩ | ⟨k, hk, e, -⟩
    · exact absurd ⟨ho, q1, hno⟩ hn
    · rw [e]; exact n0le (by omega)
  · rw [if_neg (fun y => z (h1.mpr y))]
    exact tp_ce (y_bad h 1) (tp_some ⟨rfl, rfl⟩)
end FM2
