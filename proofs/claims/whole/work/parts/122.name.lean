/-! NAMES -/
/-- the reference's row of the WORDS told -/
def WRD (w : Wd) : Prop := (∀ j, j < 20 → ∃ k, k < 20 ∧ wL w 172 j = lN (en8 (wdL k))) ∧ ∀ k, k < 20 → ∃ j, j < 20 ∧ wL w 172 j = lN (en8 (wdL k))
section NA
variable {n lim m i : Nat} {b : Nat → Nat} {w w' : Wd}
theorem x_isName (h : XP n b lim m i w) : (wI w 4 i = 1 ↔ nmOk (tkA n b m i)) ∧ (nmOk (tkA n b m i) → wL w 5 i = lN (en5 (tkA n b m i).2)) := by
  have hT := h.1.2.2.2.1
  unfold nmOk
  rcases x_kind h with ⟨h1, -, hk⟩ | ⟨h1, hk⟩ | ⟨h1, hk, -⟩ | ⟨h1, hk, -⟩ | ⟨h1, hk⟩
  · rw [hk]; exact ⟨⟨fun z => absurd z (by decide), fun z => by have := z.1; omega⟩, fun z => by have := z.1; omega⟩
  · rcases hk with ⟨hk, hv, hno⟩ | ⟨j, hj, hk, -, hz⟩
    · exact ⟨⟨fun _ => ⟨h1, fun j hj y => hno j hj (by rw [wdL_c j hj, y])⟩, fun _ => hk⟩, fun _ => hv⟩
    · rw [wdL_c j hj] at hz
      have e := (wd5 (wdL_ok j hj) (tkA_wd hT h1)).mp hz
      rw [hk]
      exact ⟨⟨fun z => absurd z (by decide), fun z => absurd e.symm (z.2 j hj)⟩, fun z => absurd e.symm (z.2 j hj)⟩
  · rw [hk]; exact ⟨⟨fun z => absurd z (by decide), fun z => by have := z.1; omega⟩, fun z => by have := z.1; omega⟩
  · rw [hk]; exact ⟨⟨fun z => absurd z (by decide), fun z => by have := z.1; omega⟩, fun z => by have := z.1; omega⟩
  · rw [hk]; exact ⟨⟨fun z => absurd z (by decide), fun z => by have := z.1; omega⟩, fun z => by have := z.1; omega⟩
theorem x_name_ok (h : XP n b lim m i w) (ho : nmOk (tkA n b m i)) : sh_42 1 w = some (lN (en5 (tkA n b m i).2), w) := by
  obtain ⟨k1, k2⟩ := x_isName h
  unfold sh_42
  rw [cl_e (x_is h 1), decide_eq_true (k1.mpr ho), if_pos rfl, cl_e (x_value h), k2 ho]
theorem x_name_no (h : XP n b lim m i w) (ho : ¬ nmOk (tkA n b m i)) : sh_42 1 w = some (-1, xBad 1 (atB n b lim m i) w) := by
  obtain ⟨k1, k2⟩ := x_isName h
  unfold sh_42
  rw [cl_e (x_is h 1), decide_eq_false (fun z => ho (k1.mp z)), if_neg (by decide), cl_e (x_bad h 1)]; rfl
theorem y_word17 (h : MK n b lim m i w) (q : (tkA n b m i).1 = 1) : wI w 166 11 = 1 ∧ wL w 166 17 = lN (en8 (tkA n b m i).2) := by
  rcases y_kind h with ⟨h0, -⟩ | ⟨-, hk⟩ | ⟨h1, -⟩ | ⟨h1, -⟩ | ⟨h1, -⟩
  · omega
  · exact hk
  · omega
  · omega
  · omega
theorem y_wordNo (h : MK n b lim m i w) (q : ¬ (tkA n b m i).1 = 1) : ¬ wI w 166 11 = 1 := by
  rcases y_kind h with ⟨-, -, hk⟩ | ⟨h1, -⟩ | ⟨h1, hk, -⟩ | ⟨h1, hk, -⟩ | ⟨h1, hk⟩
  · rw [hk]; split <;> decide
  · exact absurd h1 q
  · rw [hk]; decide
  · rw [hk]; decide
  · rw [hk]; decide
theorem y_isName (h : MK n b lim m i w) (hT : TM n b (min n lim) m) (hW : WRD w) : tp (sh_201 166 w) (fun v w' => w' = w ∧ (v = true ↔ nmOk (tkA n b m i))) := by
  unfold sh_201
  refine tp_lt ?_
  refine tp_it (fun j s w' => w' = w ∧ ∃ v, s = (v, nI j) ∧ j ≤ 20 ∧ (v = true ↔ ((tkA n b m i).1 = 1 ∧ ∀ k, k < j → ¬ wL w 166 17 = wL w 172 k))) 20 (by omega) ⟨rfl, _, rfl, by omega, ?_⟩ (fun j s w' hI => ?_)
  · by_cases q : (tkA n b m i).1 = 1
    · rw [if_pos (y_word17 h q).1]
      exact ⟨fun _ => ⟨q, fun k hk => by omega⟩, fun _ => rfl⟩
    · rw [if_neg (y_wordNo h q)]
      exact ⟨fun z => (by cases z), fun z => absurd z.1 q⟩
  · obtain ⟨ew, v, es, hj, hv⟩ := hI
    subst es
    rw [ew]
    refine tp_ite (fun z => ?_) (fun z => ?_)
    · have hj2 : j < 20 := (nlt_i (by omega) (by decide)).mp (show nI j < nI 20 from z)
      rw [nI_s]
      refine tp_ite (fun z2 => ?_) (fun z2 => ?_)
      · refine tp_gd (ib_nI hj2 (by decide)) ?_
        rw [ix_nI (by omega)]
        refine tp_ite (fun z3 => ?_) (fun z3 => ?_)
        · exact tp_lt (tp_on ⟨hj2, rfl, _, rfl, by omega, ⟨fun y => (by cases y), fun y => absurd z3 (y.2 j (by omega))⟩⟩)
        · refine tp_lt (tp_on ⟨hj2, rfl, _, rfl, by omega, ⟨fun _ => ⟨(hv.mp z2).1, fun k hk => ?_⟩, fun _ => rfl⟩⟩)
          by_cases y : k = j
          · rw [y]; exact z3
          · exact (hv.mp z2).2 k (by omega)
      · exact tp_lt (tp_on ⟨hj2, rfl, _, rfl, by omega, ⟨fun y => (by cases y), fun y => absurd (hv.mpr ⟨y.1, fun k hk => y.2 k (by omega)⟩) z2⟩⟩)
    · have hj2 : j = 20 := by
        by_cases q : j < 20
        · exact absurd (show nI j < 20 from nlt (b := 20) q (by decide)) z
        · omega
      subst hj2
      refine tp_out ⟨rfl, hv.trans ⟨fun y => ⟨y.1, fun k hk e => ?_⟩, fun y => ⟨y.1, fun k hk e => ?_⟩⟩⟩
      · obtain ⟨j, hj3, ej⟩ := hW.2 k hk
        exact y.2 j hj3 (by rw [ej, (y_word17 h y.1).2, e])
      · obtain ⟨j, hj3, ej⟩ := hW.1 k hk
        rw [ej, (y_word17 h y.1).2] at e
        exact y.2 j hj3 ((wd8 (tkA_wd hT y.1) (wdL_ok j hj3)).mp e)
end NA
