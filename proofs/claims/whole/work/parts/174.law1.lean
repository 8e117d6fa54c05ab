/-! the law's walk: a call and its like, by one form -/
def opIs (pc : Nat) (op : Op4) (npc : Nat) : Bool := decide (opAt (mCode M0) pc = some (op, npc))
def argOk (pc j : Nat) : Bool := opIs pc (4, 0, 0, 0) (pc + 1) && (opIs (pc + 1) (2, 4, 0, 0) (pc + 3) && (opIs (pc + 3) (0, 0, 0, nI j) (pc + 4) && (opIs (pc + 4) (9, 0, 0, 0) (pc + 5) && opIs (pc + 5) (27, 0, 0, 0) (pc + 6))))
def argsOk : Nat → Nat → Nat → Bool
  | 0, _, _ => true
  | n + 1, pc, j => argOk pc j && argsOk n (pc + 6) (j + 1)
def caseOk (pc n nx ny : Nat) : Bool := opIs pc (4, 1, 0, 0) (pc + 1) && (argsOk n (pc + 1) 1 && (opIs (pc + 1 + 6 * n) (39, nx, 0, 0) (pc + 4 + 6 * n) && (opIs (pc + 4 + 6 * n) (4, 2, 0, 0) (pc + 5 + 6 * n) && (argsOk n (pc + 5 + 6 * n) 1 && (opIs (pc + 5 + 12 * n) (39, ny, 0, 0) (pc + 8 + 12 * n) && opIs (pc + 8 + 12 * n) (19, 0, 1282, 0) (pc + 11 + 12 * n))))))
/-- the law's locals: the script, both systems, the row for an answer, where the script stands -/
def LV (i : Nat) : List (Nat × Value) := [(4, .int (nI (6 * i))), (3, .ref 191), (2, .ref 166), (1, .ref 0), (0, .ref 1000)]
/-- the ints of one call, from the j-th on, n of them -/
def aXs (X : Nat → Int32) : Nat → Nat → List Value
  | 0, _ => []
  | n + 1, j => .int (X j) :: aXs X n (j + 1)
section LW1
variable {E : Evf} {w w1 w2 : Wd} {X : Nat → Int32} {i Ln : Nat}
/-- the script at this call -/
def SX6 (w : Wd) (X : Nat → Int32) (i Ln : Nat) : Prop := wI w 1003 0 = nI Ln ∧ Ln ≤ 3072 ∧ 6 * i + 6 ≤ Ln ∧ ∀ j, j < 6 → wI w 1000 (6 * i + j) = X j
theorem opIs_t {pc npc : Nat} {op : Op4} (h : opIs pc op npc = true) : opAt (mCode M0) pc = some (op, npc) := of_decide_eq_true h
theorem arg_run (h : SX6 w X i Ln) {lv : List (Nat × Value)} (g0 : lgt lv 0 = some (.ref 1000)) (g4 : lgt lv 4 = some (.int (nI (6 * i)))) {pc j : Nat} (hj : j < 6) (ok : argOk pc j = true) {st : List Value} : PT E M0 (pc, lv, st, w) (pc + 6, lv, .int (X j) :: st, w) := by
  unfold argOk at ok
  rw [Bool.and_eq_true, Bool.and_eq_true, Bool.and_eq_true, Bool.and_eq_true] at ok
  obtain ⟨o1, o2, o3, o4, o5⟩ := ok
  obtain ⟨h1, h2, h3, h4⟩ := h
  refine PT.st (b := (pc + 1, lv, .ref 1000 :: st, w)) (opIs_t o1) ?_ (PT.st (b := (pc + 3, lv, .int (nI (6 * i)) :: .ref 1000 :: st, w)) (opIs_t o2) ?_ (PT.st (opIs_t o3) rfl (PT.st (b := (pc + 5, lv, .int (nI (6 * i + j)) :: .ref 1000 :: st, w)) (opIs_t o4) ?_ (PT.st (opIs_t o5) (b := (pc + 6, lv, .int (X j) :: st, w)) ?_ PT.refl))))
  · show (match lgt lv 0 with
      | some (.ref x) => some (pc + 1, lv, Value.ref x :: st, w)
      | some .null => some (pc + 1, lv, Value.null :: st, w)
      | _ => none) = _
    rw [g0]
  · show (match lgt lv 4 with
      | some (.int x) => some (pc + 3, lv, Value.int x :: Value.ref 1000 :: st, w)
      | _ => none) = _
    rw [g4]
  · show some (pc + 5, lv, .int (nI (6 * i) + nI j) :: .ref 1000 :: st, w) = _
    rw [nI_p]
  · show (if (1000 : Nat) = 1000 then (if ib (nI (6 * i + j)) (ix (wI w 1003 0)) = true then some (pc + 6, lv, Value.int (wI w 1000 (ix (nI (6 * i + j)))) :: st, w) else none) else (if zobj w 1000 101 = true ∧ ib (nI (6 * i + j)) (zsh 1000).2 = true then some (pc + 6, lv, Value.int (wI w 1000 (ix (nI (6 * i + j)))) :: st, w) else none)) = _
    rw [if_pos rfl, h1, ix_nI (by omega), if_pos (ib_nI (by omega) (by omega)), ix_nI (by omega), h4 j hj]
theorem args_run (h : SX6 w X i Ln) {lv : List (Nat × Value)} (g0 : lgt lv 0 = some (.ref 1000)) (g4 : lgt lv 4 = some (.int (nI (6 * i)))) : ∀ (n : Nat) {pc j : Nat} {st : List Value}, j + n ≤ 6 → argsOk n pc j = true → PT E M0 (pc, lv, st, w) (pc + 6 * n, lv, (aXs X n j).reverse ++ st, w)
  | 0, _, _, _, _, _ => PT.refl
  | n + 1, pc, j, st, hj, ok => by
    unfold argsOk at ok
    rw [Bool.and_eq_true] at ok
    have r1 := arg_run (E := E) h g0 g4 (st := st) (show j < 6 by omega) ok.1
    have r2 := args_run h g0 g4 n (pc := pc + 6) (j := j + 1) (st := .int (X j) :: st) (by omega) ok.2
    refine r1.trans ?_
    rw [show pc + 6 + 6 * n = pc + 6 * (n + 1) by omega] at r2
    unfold aXs
    rw [List.reverse_cons, List.append_assoc]
    exact r2
theorem call_run {pc npc n : Nat} {lv : List (Nat × Value)} {as rest : List Value} {r : Option Value} (ho : opAt (mCode M0) pc = some ((39, n, 0, 0), npc)) (hs : (rest.map fun v => v.category).sum ≤ 8) (hE : E n as w r w1) : PT E M0 (pc, lv, as.reverse ++ rest, w) (npc, lv, r.toList ++ rest, w1) :=
  PT.z (Or.inl ⟨_, _, ho, Or.inr ⟨rfl, as, rest, r, w1, rfl, hE, hs, rfl⟩⟩) PT.refl
theorem case_run (h : SX6 w X i Ln) (h1 : SX6 w1 X i Ln) {pc n nx ny : Nat} {r : Int32} (hn : n ≤ 5) (ok : caseOk pc n nx ny = true) (ex : E nx (.ref 0 :: aXs X n 1) w (some (.int r)) w1) (ey : E ny (.ref 166 :: aXs X n 1) w1 (some (.int r)) w2) : PT E M0 (pc, LV i, [], w) (1282, LV i, [], w2) := by
  unfold caseOk at ok
  rw [Bool.and_eq_true, Bool.and_eq_true, Bool.and_eq_true, Bool.and_eq_true, Bool.and_eq_true, Bool.and_eq_true] at ok
  obtain ⟨o1, o2, o3, o4, o5, o6, o7⟩ := ok
  refine PT.st (opIs_t o1) rfl ((args_run h rfl rfl n (st := [.ref 0]) (by omega) o2).trans ?_)
  have c1 := call_run (lv := LV i) (as := .ref 0 :: aXs X n 1) (rest := []) (opIs_t o3) (by decide) ex
  rw [List.append_nil, List.reverse_cons] at c1
  refine c1.trans (PT.st (opIs_t o4) rfl ((args_run h1 rfl rfl n (st := [.ref 166, .int r]) (by omega) o5).trans ?_))
  rw [show pc + 5 + 6 * n + 6 * n = pc + 5 + 12 * n by omega]
  have c2 := call_run (lv := LV i) (as := .ref 166 :: aXs X n 1) (rest := [.int r]) (opIs_t o6) (Nat.le_of_ble_eq_true rfl) ey
  rw [List.reverse_cons, List.append_assoc] at c2
  refine c2.trans (PT.st (opIs_t o7) (b := (1282, LV i, [], w2)) ?_ PT.refl)
  show some (bif decide (r = r) then 1282 else pc + 11 + 12 * n, LV i, ([] : List Value), w2) = _
  rw [decide_eq_true rfl]
  rfl
end LW1
def zcases : List (Nat × Nat × Nat × Nat) := [(200, 5, 11, 185), (273, 1, 14, 187), (298, 0, 15, 189), (311, 0, 63, 209), (460, 2, 64, 220), (497, 3, 68, 223), (546, 1, 81, 227), (571, 2, 84, 231), (608, 0, 94, 222), (621, 1, 95, 233), (646, 1, 98, 235), (671, 1, 99, 236), (696, 0, 101, 237), (709, 1, 103, 238), (734, 2, 105, 240), (771, 0, 106, 241), (784, 2, 118, 246), (821, 0, 120, 247), (834, 3, 121, 248), (883, 3, 127, 252), (932, 0, 128, 253), (945, 1, 136, 255), (970, 2, 138, 256), (1007, 1, 150, 262), (1032, 0, 152, 263), (1045, 1, 154, 266), (1070, 2, 155, 267), (1107, 3, 90, 269), (1156, 0, 156, 271), (1169, 0, 158, 272), (1182, 1, 167, 279), (1207, 1, 175, 283), (1232, 1, 178, 284), (1257, 1, 179, 285)]
theorem zcases_ok : ∀ q ∈ zcases, caseOk q.1 q.2.1 q.2.2.1 q.2.2.2 = true := by decide +kernel
theorem zcase (pc n nx ny : Nat) (h : (pc, n, nx, ny) ∈ zcases) : caseOk pc n nx ny = true := zcases_ok _ h
