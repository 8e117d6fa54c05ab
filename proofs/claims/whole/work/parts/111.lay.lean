section LB
variable {l : List Nat} {w : Wd}
theorem x_lay (hX : XL l w 67) (p : Int32) : sh_150 0 p w = some (layV l p, w) := by
  obtain ⟨h4, e8, hv⟩ := hX
  unfold sh_150 sh_151 layV
  show cl (if 0 ≤ p then (if p < wI w 67 8 then _ else _) else _) _ = _
  rw [e8]
  by_cases h0 : 0 ≤ p
  · obtain ⟨k, hk, e⟩ := nI_ex h0
    subst e
    rw [if_pos h0]
    by_cases q : k < l.length
    · have hl := nlt q (by omega)
      rw [if_pos hl, if_pos (show nI k < 4 from nlt (b := 4) (by omega) (by decide)), if_pos ⟨h0, hl⟩, gd_nI (by omega) (by decide), ix_nI hk, show wI w (0 + 67 + 6) k = nI (l.getD k 0) from hv k q]
      rfl
    · have hl := nnlt (show l.length ≤ k by omega) hk
      rw [if_neg hl, if_neg (fun z => hl z.2)]
      rfl
  · rw [if_neg h0, if_neg (fun z => h0 z.1)]
    rfl
theorem y_lay (hM : ML l w) (p : Int32) : sh_262 166 p w = some (layV l p, sI w 166 0 0) := by
  obtain ⟨h4, e8, hv⟩ := hM
  unfold sh_262 layV
  rw [stI_s, wI_other (by decide), e8, y_isIn]
  by_cases h0 : 0 ≤ p
  · obtain ⟨k, hk, e⟩ := nI_ex h0
    subst e
    rw [le_pred (by omega) h0, decide_eq_true h0, Bool.true_and]
    by_cases q : k < l.length
    · have hl := nlt q (by omega)
      rw [decide_eq_true hl, if_pos ⟨h0, hl⟩]
      show gd _ _ = _
      rw [gd_nI (by omega) (by decide), ix_nI hk, wI_row (by decide), show wI w (166 + 18) k = nI (l.getD k 0) from hv k q]
    · have hl := nnlt (show l.length ≤ k by omega) hk
      rw [decide_eq_false hl, if_neg (fun z => hl z.2)]
      rfl
  · rw [decide_eq_false h0, Bool.false_and, if_neg (fun z => h0 z.1)]
    rfl
end LB
