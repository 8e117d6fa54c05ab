/-! the law's walk: up to the loop -/
def preOk : Bool := opIs 0 (36, 9, 0, 0) 3 && (opIs 3 (15, 0, 0, 0) 4 && (opIs 4 (39, 1, 0, 0) 7 && (opIs 7 (7, 1, 0, 0) 8 && (opIs 8 (36, 10, 0, 0) 11 && (opIs 11 (15, 0, 0, 0) 12 && (opIs 12 (39, 188, 0, 0) 15 && (opIs 15 (7, 2, 0, 0) 16 && (opIs 16 (0, 0, 0, 1) 17 && (opIs 17 (37, 102, 0, 0) 19 && (opIs 19 (7, 3, 0, 0) 20 && (opIs 20 (0, 0, 0, 0) 21 && opIs 21 (5, 4, 0, 0) 23)))))))))))
theorem pre_ok : preOk = true := by decide +kernel
section LW5
variable {w0 : Wd}
theorem zst_E {E E' : Evf} (hE : ∀ n as w r w1, E n as w r w1 → E' n as w r w1) {M : Mth} {a b : Cfg} (h : Zst E M a b) : Zst E' M a b := by
  rcases h with ⟨op, npc, ho, h | ⟨h39, as, rest, r, w1, hst, hv, hb⟩⟩ | h
  · exact Or.inl ⟨op, npc, ho, Or.inl h⟩
  · exact Or.inl ⟨op, npc, ho, Or.inr ⟨h39, as, rest, r, w1, hst, hE _ _ _ _ _ hv, hb⟩⟩
  · exact Or.inr h
theorem pth_E2 {E E' : Evf} (hE : ∀ n as w r w1, E n as w r w1 → E' n as w r w1) {M : Mth} : ∀ (n : Nat) {a b : Cfg}, Pth E M n a b → Pth E' M n a b
  | 0, _, _, h => h
  | n + 1, _, _, ⟨x, h1, h2⟩ => ⟨x, zst_E hE h1, pth_E2 hE n h2⟩
theorem ev_suc : ∀ (d n : Nat) (as : List Value) (w : Wd) (r : Option Value) (w1 : Wd), Ev d n as w r w1 → Ev (d + 1) n as w r w1
  | 0, _, _, _, _, _, h => absurd h id
  | d + 1, n, as, w, r, w1, h => by
    obtain ⟨M, hM, e1, e2, e3, e4, e5, k, b, op, npc, g1, g2⟩ := h
    exact ⟨M, hM, e1, e2, e3, e4, e5, k, b, op, npc, pth_E2 (ev_suc d) k g1, g2⟩
theorem ev_add (k : Nat) {d n : Nat} {as : List Value} {w : Wd} {r : Option Value} {w1 : Wd} (h : Ev d n as w r w1) : Ev (d + k) n as w r w1 := by
  induction k with
  | zero => exact h
  | succ k ih => exact ev_suc _ _ _ _ _ _ ih
theorem pre_run (h0 : wn w0 = 0) : ∃ w, TY w ∧ SB w0 w ∧ PT (Ev 60) M0 (0, [(0, .ref 1000)], [], w0) (23, LV 0, [], w) := by
  obtain ⟨w1, w2, e1, n1, e2, n2, hI⟩ := made h0
  have ok := pre_ok
  unfold preOk at ok
  rw [Bool.and_eq_true, Bool.and_eq_true, Bool.and_eq_true, Bool.and_eq_true, Bool.and_eq_true, Bool.and_eq_true, Bool.and_eq_true, Bool.and_eq_true, Bool.and_eq_true, Bool.and_eq_true, Bool.and_eq_true, Bool.and_eq_true] at ok
  obtain ⟨o1, o2, o3, o4, o5, o6, o7, o8, o9, o10, o11, o12, o13⟩ := ok
  refine ⟨alc w2, hI.1, hI.sb, ?_⟩
  have c1 := call_run (lv := [(0, .ref 1000)]) (as := [.ref 0]) (rest := [.ref 0]) (opIs_t o3) (by decide) (ev_add 58 e1)
  have c2 := call_run (lv := [(1, .ref 0), (0, .ref 1000)]) (as := [.ref 166]) (rest := [.ref 166]) (opIs_t o7) (by decide) (ev_add 59 e2)
  refine PT.st (b := (3, [(0, .ref 1000)], [.ref 0], alc w0)) (opIs_t o1) ?_ (PT.st (opIs_t o2) rfl (PT.trans c1 (PT.st (opIs_t o4) rfl (PT.st (b := (11, [(1, .ref 0), (0, .ref 1000)], [.ref 166], alc w1)) (opIs_t o5) ?_ (PT.st (opIs_t o6) rfl (PT.trans c2 (PT.st (opIs_t o8) rfl (PT.st (opIs_t o9) rfl (PT.st (b := (19, [(2, .ref 166), (1, .ref 0), (0, .ref 1000)], [.ref 191], alc w2)) (opIs_t o10) ?_ (PT.st (opIs_t o11) rfl (PT.st (opIs_t o12) rfl (PT.st (opIs_t o13) rfl PT.refl))))))))))))
  · show (if wn w0 < zK ∧ (zsh (wn w0)).1 = 9 ∧ 9 < 11 then some (3, [(0, Value.ref 1000)], [Value.ref (wn w0)], alc w0) else none) = _
    rw [h0, if_pos ⟨by decide, by decide +kernel, by decide⟩]
  · show (if wn w1 < zK ∧ (zsh (wn w1)).1 = 10 ∧ 10 < 11 then some (11, [(1, Value.ref 0), (0, Value.ref 1000)], [Value.ref (wn w1)], alc w1) else none) = _
    rw [n1, if_pos ⟨by decide, by decide +kernel, by decide⟩]
  · show (if wn w2 < zK ∧ (zsh (wn w2)).1 = 102 ∧ 101 ≤ 102 ∧ 102 ≤ 104 ∧ (0 : Int32) ≤ 1 ∧ ix (1 : Int32) = (zsh (wn w2)).2 then some (19, [(2, Value.ref 166), (1, Value.ref 0), (0, Value.ref 1000)], [Value.ref (wn w2)], alc w2) else none) = _
    rw [n2, if_pos ⟨by decide, by decide +kernel, by decide, by decide, by decide, by decide +kernel⟩]
end LW5
