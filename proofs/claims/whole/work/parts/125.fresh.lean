/-! a NAME told for the first time -/
/-- no NAME of f (P told) nor of g (Y told) is l -/
def newL (P Y : Nat) (f g : Nat → List Nat) (l : List Nat) : Prop := (∀ k, k < P → ¬ f k = l) ∧ ∀ k, k < Y → ¬ g k = l
section FN
variable {n lim m i o p P Y : Nat} {b : Nat → Nat} {f g : Nat → List Nat} {w w' : Wd}
theorem fd_no {P : Nat} {l : List Nat} {v : Int32} (h : fdR P f l v) (hP : P ≤ 6) : (v = -1 ↔ ∀ k, k < P → ¬ f k = l) ∧ (v < 0 ↔ v = -1) := by
  rcases h with ⟨e, hno⟩ | ⟨k, hk, e, hf⟩
  · subst e
    exact ⟨⟨fun _ => hno, fun _ => rfl⟩, ⟨fun _ => rfl, fun _ => by decide⟩⟩
  · subst e
    have hne : ¬ nI k = -1 := by rw [i_eq, i_nI (by omega)]; show ¬ (k : Int) = -1; omega
    refine ⟨⟨fun z => absurd z hne, fun z => absurd hf.1 (z k hk)⟩, ⟨fun z => ?_, fun z => absurd z hne⟩⟩
    exact absurd z (show ¬ nI k < nI 0 from nnlt (by omega) (by omega))
theorem lN_m1 {l : List Nat} (h : okL l) : ¬ lN (en5 l) = -1 := by
  have u := en5_up 7 l h.2.1 h.2.2
  have e : (32 : Nat) ^ 7 < 2 ^ 63 := by decide
  intro z
  have h1 : (lN (en5 l)).toInt = ((en5 l : Nat) : Int) := lg_ofNat_toInt (by omega)
  rw [z] at h1
  have h2 : (-1 : Int64).toInt = -1 := by decide
  omega
theorem x_fresh_ok (h : XP n b lim m i w) (e3 : wI w o 3 = nI P) (hP : P ≤ 6) (hf : ∀ k, k < P → okL (f k) ∧ wL w (o + 4) k = lN (en5 (f k))) (e4 : wI w o 4 = nI Y) (hY : Y ≤ 6) (hg : ∀ k, k < Y → okL (g k) ∧ wL w (o + 5) k = lN (en5 (g k))) (ho : nmOk (tkA n b m i)) (hn : newL P Y f g (tkA n b m i).2) : tp (sh_41 p o w) (fun v w' => v = lN (en5 (tkA n b m i).2) ∧ XP n b lim m (nextN m i) w' ∧ Kp (fun q => q = 1) w w' ∧ Ft (fun j => j = 6) w w') := by
  have hl := tkA_wd h.1.2.2.2.1 ho.1
  unfold sh_41
  refine tp_ce (x_name_ok h ho) (tp_ifn (lN_m1 hl) (tp_cl (x_find43 e3 hP hf hl) (fun v w1 h1 => ?_)))
  obtain ⟨e1, h1⟩ := h1
  rw [e1]
  refine tp_if ((fd_no h1 hP).1.mpr hn.1) (tp_cl (x_find44 e4 hY hg hl) (fun v2 w2 h2 => ?_))
  obtain ⟨e2, h2⟩ := h2
  rw [e2]
  exact tp_if ((fd_no h2 hY).1.mpr hn.2) (tp_cl (x_go h) (fun _ w3 h3 => tp_some ⟨rfl, h3⟩))
/-- the code of a NAME refused -/
noncomputable def nmC (t : Nat × List Nat) : Int32 := @ite Int32 (nmOk t) (Classical.propDecidable _) 3 1
theorem x_fresh_no (h : XP n b lim m i w) (e3 : wI w o 3 = nI P) (hP : P ≤ 6) (hf : ∀ k, k < P → okL (f k) ∧ wL w (o + 4) k = lN (en5 (f k))) (e4 : wI w o 4 = nI Y) (hY : Y ≤ 6) (hg : ∀ k, k < Y → okL (g k) ∧ wL w (o + 5) k = lN (en5 (g k))) (hn : ¬ (nmOk (tkA n b m i) ∧ newL P Y f g (tkA n b m i).2)) : tp (sh_41 p o w) (fun v w' => v = -1 ∧ w' = xBad (nmC (tkA n b m i)) (atB n b lim m i) w) := by
  unfold sh_41 nmC
  rcases Classical.em (nmOk (tkA n b m i)) with ho | ho
  · rw [if_pos ho]
    have hl := tkA_wd h.1.2.2.2.1 ho.1
    refine tp_ce (x_name_ok h ho) (tp_ifn (lN_m1 hl) (tp_cl (x_find43 e3 hP hf hl) (fun v w1 h1 => ?_)))
    obtain ⟨e1, h1⟩ := h1
    rw [e1]
    refine tp_ite (fun z => ?_) (fun _ => tp_ce (x_bad h 3) (tp_some ⟨rfl, rfl⟩))
    refine tp_cl (x_find44 e4 hY hg hl) (fun v2 w2 h2 => ?_)
    obtain ⟨e2, h2⟩ := h2
    rw [e2]
    refine tp_ifn (fun z2 => hn ⟨ho, (fd_no h1 hP).1.mp z, (fd_no h2 hY).1.mp z2⟩) (tp_ce (x_bad h 3) (tp_some ⟨rfl, rfl⟩))
  · rw [if_neg ho]
    exact tp_ce (x_name_no h ho) (tp_if rfl (tp_some ⟨rfl, rfl⟩))
end FN
