/-! NAMES told already -/
/-- the NAME l is number k of f, P told; or none -/
def fdR (P : Nat) (f : Nat → List Nat) (l : List Nat) (v : Int32) : Prop := (v = -1 ∧ ∀ k, k < P → ¬ f k = l) ∨ ∃ k, k < P ∧ v = nI k ∧ f k = l ∧ ∀ j, j < k → ¬ f j = l
section TO
variable {o P : Nat} {f : Nat → List Nat} {l : List Nat} {w : Wd}
theorem x_find43 (e3 : wI w o 3 = nI P) (hP : P ≤ 6) (hn : ∀ k, k < P → okL (f k) ∧ wL w (o + 4) k = lN (en5 (f k))) (hl : okL l) : tp (sh_43 o (lN (en5 l)) w) (fun v w' => w' = w ∧ fdR P f l v) := by
  unfold sh_43
  refine tp_it (fun j s w' => w' = w ∧ s = nI j ∧ j ≤ P ∧ ∀ k, k < j → ¬ f k = l) 6 (by omega) ⟨rfl, rfl, by omega, fun k hk => by omega⟩ (fun j s w' hI => ?_)
  obtain ⟨ew, es, hj, hno⟩ := hI
  subst es
  rw [ew, e3]
  refine tp_ite (fun z => ?_) (fun z => ?_)
  · have hj2 := (nlt_i (by omega) (by omega)).mp z
    refine tp_if (show nI j < 6 from nlt (b := 6) (by omega) (by decide)) (tp_gd (ib_nI (by omega) (by decide)) ?_)
    rw [ix_nI (by omega), (hn j hj2).2]
    have hw := wd5 (hn j hj2).1 hl
    refine tp_ite (fun z2 => ?_) (fun z2 => ?_)
    · exact tp_out ⟨rfl, Or.inr ⟨j, hj2, rfl, hw.mp z2, hno⟩⟩
    · rw [nI_s]
      refine tp_lt (tp_on ⟨by omega, rfl, rfl, by omega, fun k hk => ?_⟩)
      by_cases y : k = j
      · rw [y]; exact fun x => z2 (hw.mpr x)
      · exact hno k (by omega)
  · have hj2 : ¬ j < P := fun q => z (nlt q (by omega))
    exact tp_out ⟨rfl, Or.inl ⟨rfl, fun k hk => hno k (by omega)⟩⟩
theorem x_find44 (e3 : wI w o 4 = nI P) (hP : P ≤ 6) (hn : ∀ k, k < P → okL (f k) ∧ wL w (o + 5) k = lN (en5 (f k))) (hl : okL l) : tp (sh_44 o (lN (en5 l)) w) (fun v w' => w' = w ∧ fdR P f l v) := by
  unfold sh_44
  refine tp_it (fun j s w' => w' = w ∧ s = nI j ∧ j ≤ P ∧ ∀ k, k < j → ¬ f k = l) 6 (by omega) ⟨rfl, rfl, by omega, fun k hk => by omega⟩ (fun j s w' hI => ?_)
  obtain ⟨ew, es, hj, hno⟩ := hI
  subst es
  rw [ew, e3]
  refine tp_ite (fun z => ?_) (fun z => ?_)
  · have hj2 := (nlt_i (by omega) (by omega)).mp z
    refine tp_if (show nI j < 6 from nlt (b := 6) (by omega) (by decide)) (tp_gd (ib_nI (by omega) (by decide)) ?_)
    rw [ix_nI (by omega), (hn j hj2).2]
    have hw := wd5 (hn j hj2).1 hl
    refine tp_ite (fun z2 => ?_) (fun z2 => ?_)
    · exact tp_out ⟨rfl, Or.inr ⟨j, hj2, rfl, hw.mp z2, hno⟩⟩
    · rw [nI_s]
      refine tp_lt (tp_on ⟨by omega, rfl, rfl, by omega, fun k hk => ?_⟩)
      by_cases y : k = j
      · rw [y]; exact fun x => z2 (hw.mpr x)
      · exact hno k (by omega)
  · have hj2 : ¬ j < P := fun q => z (nlt q (by omega))
    exact tp_out ⟨rfl, Or.inl ⟨rfl, fun k hk => hno k (by omega)⟩⟩
theorem y_find {g : Nat} (hP : P ≤ 6) (hg : g ≤ 18) (h17 : wL w 166 17 = lN (en8 l)) (hn : ∀ k, k < P → okL (f k) ∧ wL w 171 (g + k) = lN (en8 (f k))) (hl : okL l) : tp (sh_202 166 (nI g) (nI P) w) (fun v w' => w' = w ∧ fdR P f l v) := by
  unfold sh_202
  refine tp_it (fun j s w' => w' = w ∧ s = nI j ∧ j ≤ P ∧ ∀ k, k < j → ¬ f k = l) 6 (by omega) ⟨rfl, rfl, by omega, fun k hk => by omega⟩ (fun j s w' hI => ?_)
  obtain ⟨ew, es, hj, hno⟩ := hI
  subst es
  rw [ew]
  refine tp_ite (fun z => ?_) (fun z => ?_)
  · have hj2 := (nlt_i (by omega) (by omega)).mp z
    rw [nI_p, ix_nI (by omega), h17, show wL w (166 + 5) (g + j) = lN (en8 (f j)) from (hn j hj2).2]
    have hw := wd8 (hn j hj2).1 hl
    refine tp_gd (ib_nI (by omega) (by decide)) (tp_ite (fun z2 => ?_) (fun z2 => ?_))
    · exact tp_out ⟨rfl, Or.inr ⟨j, hj2, rfl, hw.mp z2, hno⟩⟩
    · rw [nI_s]
      refine tp_lt (tp_on ⟨by omega, rfl, rfl, by omega, fun k hk => ?_⟩)
      by_cases y : k = j
      · rw [y]; exact fun x => z2 (hw.mpr x)
      · exact hno k (by omega)
  · have hj2 : ¬ j < P := fun q => z (nlt q (by omega))
    exact tp_out ⟨rfl, Or.inl ⟨rfl, fun k hk => hno k (by omega)⟩⟩
end TO
