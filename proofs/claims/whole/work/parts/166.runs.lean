/-! constructors: paths, a rug's loop, the runs by lists -/
def PT (E : Evf) (M : Mth) (a b : Cfg) : Prop := ∃ n, Pth E M n a b
theorem PT.refl {E : Evf} {M : Mth} {a : Cfg} : PT E M a a := ⟨0, rfl⟩
theorem pth_app {E : Evf} {M : Mth} : ∀ (n : Nat) {a b c : Cfg} (k : Nat), Pth E M n a b → Pth E M k b c → Pth E M (n + k) a c
  | 0, a, b, c, k, h1, h2 => by cases h1; rw [Nat.zero_add]; exact h2
  | n + 1, a, b, c, k, ⟨x, g1, g2⟩, h2 => by rw [show n + 1 + k = (n + k) + 1 by omega]; exact ⟨x, g1, pth_app n k g2 h2⟩
theorem PT.trans {E : Evf} {M : Mth} {a b c : Cfg} (h : PT E M a b) (h2 : PT E M b c) : PT E M a c := by
  obtain ⟨n, h⟩ := h
  obtain ⟨k, h2⟩ := h2
  exact ⟨n + k, pth_app n k h h2⟩
theorem PT.z {E : Evf} {M : Mth} {a b c : Cfg} (h : Zst E M a b) (k : PT E M b c) : PT E M a c := by
  obtain ⟨n, k⟩ := k
  exact ⟨n + 1, b, h, k⟩
theorem PT.st {E : Evf} {M : Mth} {pc npc : Nat} {lv : List (Nat × Value)} {st : List Value} {w : Wd} {b c : Cfg} {op : Op4} (ho : opAt (mCode M) pc = some (op, npc)) (hz : zst' M op npc lv st w = some b) (k : PT E M b c) : PT E M (pc, lv, st, w) c := PT.z (Or.inl ⟨op, npc, ho, Or.inl hz⟩) k
theorem PT.fgt {E : Evf} {M : Mth} {pc : Nat} {lv : List (Nat × Value)} {st : List Value} {w : Wd} {c : Cfg} (lv' : List (Nat × Value)) (hs : subl lv' lv) (k : PT E M (pc, lv', st, w) c) : PT E M (pc, lv, st, w) c := PT.z (Or.inr ⟨lv', subl_mem hs, rfl⟩) k
theorem PT.fin {E : Evf} {M : Mth} {a b : Cfg} {r : Option Value} {w : Wd} (h : PT E M a b) (k : Zfn E M b r w) : Zfn E M a r w := by
  obtain ⟨n, h⟩ := h
  obtain ⟨m, c, op, npc, h1, h2⟩ := k
  exact ⟨n + m, c, op, npc, pth_app n m h h1, h2⟩
def fillW (w : Wd) (k j : Nat) : Wd := (wn w, wx w, fun a b => if a = k ∧ b < j then -1 else wI w a b, wL w, wR w)
theorem fillW_s (w : Wd) (k j : Nat) : sI (fillW w k j) k j (-1) = fillW w k (j + 1) := by
  refine Prod.ext rfl (Prod.ext rfl (Prod.ext ?_ rfl))
  funext a b
  show (if a = k ∧ b = j then -1 else if a = k ∧ b < j then -1 else wI w a b) = if a = k ∧ b < j + 1 then -1 else wI w a b
  by_cases h1 : a = k ∧ b = j
  · rw [if_pos h1, if_pos ⟨h1.1, by omega⟩]
  · rw [if_neg h1]
    by_cases h2 : a = k ∧ b < j
    · rw [if_pos h2, if_pos ⟨h2.1, by omega⟩]
    · rw [if_neg h2, if_neg (fun z => ?_)]
      by_cases h3 : b = j
      · exact h1 ⟨z.1, h3⟩
      · exact h2 ⟨z.1, by omega⟩
theorem fillW_0 (w : Wd) (k : Nat) : fillW w k 0 = w := by
  refine Prod.ext rfl (Prod.ext rfl (Prod.ext ?_ rfl))
  funext a b
  show (if a = k ∧ b < 0 then -1 else wI w a b) = wI w a b
  rw [if_neg (fun z => by have := z.2; omega)]
theorem m6_ops : opAt (mCode M6) 73 = some ((2, 1, 0, 0), 74) ∧ opAt (mCode M6) 74 = some ((0, 0, 0, 144), 77) ∧ opAt (mCode M6) 77 = some ((19, 3, 93, 0), 80) ∧ opAt (mCode M6) 80 = some ((4, 0, 0, 0), 81) ∧ opAt (mCode M6) 81 = some ((49, 5, 3, 0), 84) ∧ opAt (mCode M6) 84 = some ((2, 1, 0, 0), 85) ∧ opAt (mCode M6) 85 = some ((0, 0, 0, -1), 86) ∧ opAt (mCode M6) 86 = some ((31, 0, 0, 0), 87) ∧ opAt (mCode M6) 87 = some ((8, 1, 0, 1), 90) ∧ opAt (mCode M6) 90 = some ((22, 0, 73, 0), 93) := ⟨rfl, rfl, rfl, rfl, rfl, rfl, rfl, rfl, rfl, rfl⟩
theorem m6_loop {E : Evf} {w : Wd} {o k : Nat} (ho : zobj w o 5 = true) (hk : wR w o 3 = some k) (hz : zobj w k 101 = true) (hl : (zsh k).2 = 144) : ∀ n j, j + n = 144 → PT E M6 (73, [(1, .int (nI j)), (0, .ref o)], [], fillW w k j) (93, [(0, .ref o)], [], fillW w k 144) := by
  obtain ⟨o1, o2, o3, o4, o5, o6, o7, o8, o9, o10⟩ := m6_ops
  intro n
  induction n with
  | zero =>
    intro j hj
    have : j = 144 := by omega
    subst this
    refine PT.st o1 rfl (PT.st o2 rfl (PT.st o3 (b := (93, [(1, .int (nI 144)), (0, .ref o)], [], fillW w k 144)) ?_ (PT.fgt [(0, .ref o)] ⟨rfl, trivial⟩ PT.refl)))
    rfl
  | succ n ih =>
    intro j hj
    have hlt : j < 144 := by omega
    refine PT.st o1 rfl (PT.st o2 rfl (PT.st o3 (b := (80, [(1, .int (nI j)), (0, .ref o)], [], fillW w k j)) ?_ (PT.st o4 rfl (PT.st o5 (b := (84, [(1, .int (nI j)), (0, .ref o)], [.ref k], fillW w k j)) ?_ (PT.st o6 rfl (PT.st o7 rfl (PT.st o8 (b := (87, [(1, .int (nI j)), (0, .ref o)], [], fillW w k (j + 1))) ?_ (PT.st o9 (b := (90, [(1, .int (nI (j + 1))), (0, .ref o)], [], fillW w k (j + 1))) ?_ (PT.st o10 rfl (ih (j + 1) (by omega)))))))))))
    · show some (bif decide ((144 : Int32) ≤ nI j) then 93 else 80, _) = _
      rw [decide_eq_false (show ¬ (144 : Int32) ≤ nI j from nnle (a := 144) (b := j) hlt (by decide))]
      rfl
    · show (if zobj (fillW w k j) o 5 = true then some (84, _, va_rf (wR w o 3) :: _, _) else none) = _
      rw [if_pos (show zobj (fillW w k j) o 5 = true from ho), hk]
      rfl
    · show (if zobj (fillW w k j) k 101 = true ∧ ib (nI j) (zsh k).2 = true then some (87, _, _, sI (fillW w k j) k (ix (nI j)) (-1)) else none) = _
      rw [if_pos ⟨(show zobj (fillW w k j) k 101 = true from hz), by rw [hl]; exact ib_nI hlt (by decide)⟩, ix_nI (by omega), fillW_s]
    · show some (90, lst1 _ 1 (.int (nI j + 1)), _, _) = _
      rw [nI_s]
      rfl
def lfill (lv : List (Nat × Value)) (st : List Value) (l : LW) : Option (List (Nat × Value) × LW) := match st, lgt lv 1, lgt lv 0 with
  | [], some (.int x), some (.ref o) => if x = 0 ∧ lobj l o 5 = true then (match lfd none l.2.2.2 o 3 with
    | some (some k) => if lobj l k 101 = true ∧ (zsh k).2 = 144 then some ([(0, .ref o)], (l.1, (k, 2, 0, -1) :: l.2.1, l.2.2)) else none
    | _ => none) else none
  | _, _, _ => none
theorem lfill_ok {E : Evf} {lv : List (Nat × Value)} {st : List Value} {l : LW} {w0 : Wd} {q : List (Nat × Value) × LW} (h : lfill lv st l = some q) : PT E M6 (73, lv, st, toW w0 l) (93, q.1, [], toW w0 q.2) := by
  unfold lfill at h
  split at h
  · rename_i x o h1 h0
    split at h
    · rename_i hc
      split at h
      · rename_i k hk
        split at h
        · rename_i hc2
          cases h
          refine PT.fgt [(1, .int (nI 0)), (0, .ref o)] ⟨by rw [h1, hc.1]; rfl, h0, trivial⟩ ?_
          have := m6_loop (E := E) (w := toW w0 l) (o := o) (k := k) hc.2 (lfd_lk _ hk) hc2.1 hc2.2 144 0 (by decide)
          rw [fillW_0] at this
          exact this
        · cases h
      · cases h
    · cases h
  · cases h
abbrev Row : Type := Nat × Nat × Op4
/-- one step by lists: none on, some at a target -/
def mst (M : Mth) (t a b : Nat) (v : Int32) (lv : List (Nat × Value)) (st : List Value) (n : Nat) (i : LG Int32) (g : LG Int64) (r : LG (Option Nat)) : Option (Option Nat × List (Nat × Value) × List Value × Nat × LG Int32 × LG Int64 × LG (Option Nat)) :=
  bif Nat.beq t 4 then (match lgt lv a with
    | some (.ref x) => some (none, lv, .ref x :: st, n, i, g, r)
    | _ => none)
  else bif Nat.beq t 0 then some (none, lv, .int v :: st, n, i, g, r)
  else bif Nat.beq t 25 then (match st with
    | .int x :: .ref o :: q => bif Nat.blt o n && (Nat.beq (zsh o).1 a && zpf M a b) then some (none, lv, q, n, (o, 1, b, x) :: i, g, r) else none
    | _ => none)
  else bif Nat.beq t 52 then (match st with
    | .int x :: .ref o :: q => bif Nat.blt o n && (Nat.beq (zsh o).1 a && (zpf M a b && decide (x = 0))) then some (none, lv, q, n, (o, 1, b, x) :: i, g, r) else none
    | _ => none)
  else bif Nat.beq t 51 then (match st with
    | .ref x :: .ref o :: q => bif Nat.blt o n && (Nat.beq (zsh o).1 a && zpf M a b) then some (none, lv, q, n, i, g, (o, 1, b, some x) :: r) else none
    | _ => none)
  else bif Nat.beq t 37 then (match st with
    | .int x :: q => bif decide (n < zK ∧ (zsh n).1 = a ∧ 101 ≤ a ∧ a ≤ 104 ∧ 0 ≤ x ∧ ix x = (zsh n).2) then some (none, lv, .ref n :: q, n + 1, (n, 0, 0, 0) :: i, (n, 0, 0, 0) :: g, (n, 0, 0, none) :: r) else none
    | _ => none)
  else bif Nat.beq t 46 then (match st with
    | .ref _ :: q => bif decide ((q.map fun v => v.category).sum ≤ 8) then some (none, lv, q, n, i, g, r) else none
    | _ => none)
  else bif Nat.beq t 36 then (bif decide (n < zK ∧ (zsh n).1 = a ∧ a < 11) then some (none, lv, .ref n :: st, n + 1, (n, 0, 0, 0) :: i, (n, 0, 0, 0) :: g, (n, 0, 0, none) :: r) else none)
  else bif Nat.beq t 15 then (match st with
    | .ref x :: q => some (none, lv, .ref x :: .ref x :: q, n, i, g, r)
    | _ => none)
  else bif Nat.beq t 49 then (match st with
    | .ref o :: q => bif Nat.blt o n && Nat.beq (zsh o).1 a then (match lfd none r o b with
      | some (some x) => some (none, lv, .ref x :: q, n, i, g, r)
      | _ => none) else none
    | _ => none)
  else bif Nat.beq t 1 then some (none, lv, .long (zlc a) :: st, n, i, g, r)
  else bif Nat.beq t 32 then (match st with
    | .long x :: .int y :: .ref o :: q => bif Nat.blt o n && (Nat.beq (zsh o).1 102 && ib y (zsh o).2) then some (none, lv, q, n, i, (o, 1, ix y, x) :: g, r) else none
    | _ => none)
  else bif Nat.beq t 38 then (match st with
    | .int x :: q => bif decide (n < zK ∧ (zsh n).1 = 110 + a ∧ (a = 1 ∨ a = 5 ∨ a = 6) ∧ 0 ≤ x ∧ ix x = (zsh n).2) then some (none, lv, .ref n :: q, n + 1, (n, 0, 0, 0) :: i, (n, 0, 0, 0) :: g, (n, 0, 0, none) :: r) else none
    | _ => none)
  else bif Nat.beq t 34 then (match st with
    | .ref x :: .int y :: .ref o :: q => bif Nat.blt o n && (Nat.blt x n && (ib y (zsh o).2 && (Nat.beq (zsh o).1 111 && Nat.beq (zsh x).1 1 || (Nat.beq (zsh o).1 115 && Nat.beq (zsh x).1 5 || Nat.beq (zsh o).1 116 && Nat.beq (zsh x).1 6)))) then some (none, lv, q, n, i, g, (o, 1, ix y, some x) :: r) else none
    | _ => none)
  else bif Nat.beq t 5 then (match st with
    | .int x :: q => some (none, lst1 lv a (.int x), q, n, i, g, r)
    | _ => none)
  else bif Nat.beq t 2 then (match lgt lv a with
    | some (.int x) => some (none, lv, .int x :: st, n, i, g, r)
    | _ => none)
  else bif Nat.beq t 19 then (match st with
    | .int y :: .int x :: q => some (bif zcnd a x y then some b else none, lv, q, n, i, g, r)
    | _ => none)
  else bif Nat.beq t 8 then (match lgt lv a with
    | some (.int x) => some (none, lst1 lv a (.int (x + v)), st, n, i, g, r)
    | _ => none)
  else bif Nat.beq t 22 then some (some b, lv, st, n, i, g, r)
  else bif Nat.beq t 31 then (match st with
    | .int x :: .int y :: .ref o :: q => bif Nat.blt o n && (Nat.beq (zsh o).1 101 && ib y (zsh o).2) then some (none, lv, q, n, (o, 1, ix y, x) :: i, g, r) else none
    | _ => none)
  else none
theorem beq_t {a b : Nat} (h : Nat.beq a b = true) : a = b := Nat.eq_of_beq_eq_true h
theorem band3 {a b c : Bool} (h : (a && (b && c)) = true) : a = true ∧ b = true ∧ c = true := by
  rw [Bool.and_eq_true, Bool.and_eq_true] at h
  exact h
theorem band4 {a b c d : Bool} (h : (a && (b && (c && d))) = true) : a = true ∧ b = true ∧ c = true ∧ d = true := by
  rw [Bool.and_eq_true, Bool.and_eq_true, Bool.and_eq_true] at h
  exact h
theorem zobj_b {w0 : Wd} {n o c : Nat} {i : LG Int32} {g : LG Int64} {r : LG (Option Nat)} (h1 : Nat.blt o n = true) (h2 : Nat.beq (zsh o).1 c = true) : zobj (toW w0 (n, i, g, r)) o c = true := by
  show (Nat.blt o n && Nat.beq (zsh o).1 c) = true
  rw [h1, h2]
  rfl
theorem bif_some {α : Type} {c : Bool} {x : Option α} {q : α} (h : (bif c then x else none) = some q) : c = true ∧ x = some q := by
  cases c with
  | true => exact ⟨rfl, h⟩
  | false => cases h
theorem mst_ok {M : Mth} {t a b npc : Nat} {v : Int32} {lv : List (Nat × Value)} {st : List Value} {n : Nat} {i : LG Int32} {g : LG Int64} {r : LG (Option Nat)} {w0 : Wd} {q : Option Nat × List (Nat × Value) × List Value × LW} (h : mst M t a b v lv st n i g r = some q) : zst' M (t, a, b, v) npc lv st (toW w0 (n, i, g, r)) = some (q.1.getD npc, q.2.1, q.2.2.1, toW w0 q.2.2.2) := by
  unfold mst at h
  cases hb : Nat.beq t 4 with
  | true =>
    rw [hb] at h
    have e := beq_t hb
    subst e
    simp only [cond_true] at h
    split at h
    · rename_i x hx
      cases h
      show zs1 4 a b v npc lv st _ = _
      simp only [zs1, hx]
      rfl
    · cases h
  | false =>
  rw [hb] at h
  simp only [cond_false] at h
  cases hb : Nat.beq t 0 with
  | true =>
    rw [hb] at h
    have e := beq_t hb
    subst e
    simp only [cond_true] at h
    cases h
    rfl
  | false =>
  rw [hb] at h
  simp only [cond_false] at h
  cases hb : Nat.beq t 25 with
  | true =>
    rw [hb] at h
    have e := beq_t hb
    subst e
    simp only [cond_true] at h
    split at h
    · rename_i x o q
      obtain ⟨hc, h⟩ := bif_some h
      obtain ⟨h1, h2, h3⟩ := band3 hc
      cases h
      show (if zobj (toW w0 (n, i, g, r)) o a = true ∧ zpf M a b = true then some (npc, lv, q, sI (toW w0 (n, i, g, r)) o b x) else none) = _
      rw [if_pos ⟨zobj_b h1 h2, h3⟩]
      rfl
    · cases h
  | false =>
  rw [hb] at h
  simp only [cond_false] at h
  cases hb : Nat.beq t 52 with
  | true =>
    rw [hb] at h
    have e := beq_t hb
    subst e
    simp only [cond_true] at h
    split at h
    · rename_i x o q
      obtain ⟨hc, h⟩ := bif_some h
      obtain ⟨h1, h2, h3, h4⟩ := band4 hc
      cases h
      show (if zobj (toW w0 (n, i, g, r)) o a = true ∧ zpf M a b = true ∧ (x = 0 ∨ x = 1) then some (npc, lv, q, sI (toW w0 (n, i, g, r)) o b x) else none) = _
      rw [if_pos ⟨zobj_b h1 h2, h3, Or.inl (of_decide_eq_true h4)⟩]
      rfl
    · cases h
  | false =>
  rw [hb] at h
  simp only [cond_false] at h
  cases hb : Nat.beq t 51 with
  | true =>
    rw [hb] at h
    have e := beq_t hb
    subst e
    simp only [cond_true] at h
    split at h
    · rename_i x o q
      obtain ⟨hc, h⟩ := bif_some h
      obtain ⟨h1, h2, h3⟩ := band3 hc
      cases h
      show (if zobj (toW w0 (n, i, g, r)) o a = true ∧ zpf M a b = true then some (npc, lv, q, sR (toW w0 (n, i, g, r)) o b (some x)) else none) = _
      rw [if_pos ⟨zobj_b h1 h2, h3⟩]
      rfl
    · cases h
  | false =>
  rw [hb] at h
  simp only [cond_false] at h
  cases hb : Nat.beq t 37 with
  | true =>
    rw [hb] at h
    have e := beq_t hb
    subst e
    simp only [cond_true] at h
    split at h
    · rename_i x q
      obtain ⟨hc, h⟩ := bif_some h
      have h1 := of_decide_eq_true hc
      cases h
      show (if n < zK ∧ (zsh n).1 = a ∧ 101 ≤ a ∧ a ≤ 104 ∧ 0 ≤ x ∧ ix x = (zsh n).2 then some (npc, lv, Value.ref n :: q, alc (toW w0 (n, i, g, r))) else none) = _
      rw [if_pos h1]
      rfl
    · cases h
  | false =>
  rw [hb] at h
  simp only [cond_false] at h
  cases hb : Nat.beq t 46 with
  | true =>
    rw [hb] at h
    have e := beq_t hb
    subst e
    simp only [cond_true] at h
    split at h
    · rename_i x q
      obtain ⟨hc, h⟩ := bif_some h
      have h1 := of_decide_eq_true hc
      cases h
      show (if (q.map fun v => v.category).sum ≤ 8 then some (npc, lv, q, toW w0 (n, i, g, r)) else none) = _
      rw [if_pos h1]
      rfl
    · cases h
  | false =>
  rw [hb] at h
  simp only [cond_false] at h
  cases hb : Nat.beq t 36 with
  | true =>
    rw [hb] at h
    have e := beq_t hb
    subst e
    simp only [cond_true] at h
    obtain ⟨hc, h⟩ := bif_some h
    have h1 := of_decide_eq_true hc
    cases h
    show (if n < zK ∧ (zsh n).1 = a ∧ a < 11 then some (npc, lv, Value.ref n :: st, alc (toW w0 (n, i, g, r))) else none) = _
    rw [if_pos h1]
    rfl
  | false =>
  rw [hb] at h
  simp only [cond_false] at h
  cases hb : Nat.beq t 15 with
  | true =>
    rw [hb] at h
    have e := beq_t hb
    subst e
    simp only [cond_true] at h
    split at h
    · rename_i x q
      cases h
      rfl
    · cases h
  | false =>
  rw [hb] at h
  simp only [cond_false] at h
  cases hb : Nat.beq t 49 with
  | true =>
    rw [hb] at h
    have e := beq_t hb
    subst e
    simp only [cond_true] at h
    split at h
    · rename_i o q
      obtain ⟨hc, h⟩ := bif_some h
      rw [Bool.and_eq_true] at hc
      split at h
      · rename_i x hx
        cases h
        have e : wR (toW w0 (n, i, g, r)) o b = some x := lfd_lk _ hx
        show (if zobj (toW w0 (n, i, g, r)) o a = true then some (npc, lv, va_rf (wR (toW w0 (n, i, g, r)) o b) :: q, toW w0 (n, i, g, r)) else none) = _
        rw [if_pos (zobj_b hc.1 hc.2), e]
        rfl
      · cases h
    · cases h
  | false =>
  rw [hb] at h
  simp only [cond_false] at h
  cases hb : Nat.beq t 1 with
  | true =>
    rw [hb] at h
    have e := beq_t hb
    subst e
    simp only [cond_true] at h
    cases h
    rfl
  | false =>
  rw [hb] at h
  simp only [cond_false] at h
  cases hb : Nat.beq t 32 with
  | true =>
    rw [hb] at h
    have e := beq_t hb
    subst e
    simp only [cond_true] at h
    split at h
    · rename_i x y o q
      obtain ⟨hc, h⟩ := bif_some h
      obtain ⟨h1, h2, h3⟩ := band3 hc
      cases h
      show (if zobj (toW w0 (n, i, g, r)) o 102 = true ∧ ib y (zsh o).2 = true then some (npc, lv, q, sL (toW w0 (n, i, g, r)) o (ix y) x) else none) = _
      rw [if_pos ⟨zobj_b h1 h2, h3⟩]
      rfl
    · cases h
  | false =>
  rw [hb] at h
  simp only [cond_false] at h
  cases hb : Nat.beq t 38 with
  | true =>
    rw [hb] at h
    have e := beq_t hb
    subst e
    simp only [cond_true] at h
    split at h
    · rename_i x q
      obtain ⟨hc, h⟩ := bif_some h
      have h1 := of_decide_eq_true hc
      cases h
      show (if n < zK ∧ (zsh n).1 = 110 + a ∧ (a = 1 ∨ a = 5 ∨ a = 6) ∧ 0 ≤ x ∧ ix x = (zsh n).2 then some (npc, lv, Value.ref n :: q, alc (toW w0 (n, i, g, r))) else none) = _
      rw [if_pos h1]
      rfl
    · cases h
  | false =>
  rw [hb] at h
  simp only [cond_false] at h
  cases hb : Nat.beq t 34 with
  | true =>
    rw [hb] at h
    have e := beq_t hb
    subst e
    simp only [cond_true] at h
    split at h
    · rename_i x y o q
      obtain ⟨hc, h⟩ := bif_some h
      obtain ⟨h1, h2, h3, h4⟩ := band4 hc
      cases h
      have hz : zobj (toW w0 (n, i, g, r)) o 111 = true ∧ zobj (toW w0 (n, i, g, r)) x 1 = true ∨ zobj (toW w0 (n, i, g, r)) o 115 = true ∧ zobj (toW w0 (n, i, g, r)) x 5 = true ∨ zobj (toW w0 (n, i, g, r)) o 116 = true ∧ zobj (toW w0 (n, i, g, r)) x 6 = true := by
        rw [Bool.or_eq_true, Bool.or_eq_true, Bool.and_eq_true, Bool.and_eq_true, Bool.and_eq_true] at h4
        rcases h4 with y | y | y
        · exact Or.inl ⟨zobj_b h1 y.1, zobj_b h2 y.2⟩
        · exact Or.inr (Or.inl ⟨zobj_b h1 y.1, zobj_b h2 y.2⟩)
        · exact Or.inr (Or.inr ⟨zobj_b h1 y.1, zobj_b h2 y.2⟩)
      show (if (zobj (toW w0 (n, i, g, r)) o 111 = true ∧ zobj (toW w0 (n, i, g, r)) x 1 = true ∨ zobj (toW w0 (n, i, g, r)) o 115 = true ∧ zobj (toW w0 (n, i, g, r)) x 5 = true ∨ zobj (toW w0 (n, i, g, r)) o 116 = true ∧ zobj (toW w0 (n, i, g, r)) x 6 = true) ∧ ib y (zsh o).2 = true then some (npc, lv, q, sR (toW w0 (n, i, g, r)) o (ix y) (some x)) else none) = _
      rw [if_pos ⟨hz, h3⟩]
      rfl
    · cases h
  | false =>
  rw [hb] at h
  simp only [cond_false] at h
  cases hb : Nat.beq t 5 with
  | true =>
    rw [hb] at h
    have e := beq_t hb
    subst e
    simp only [cond_true] at h
    split at h
    · rename_i x q
      cases h
      rfl
    · cases h
  | false =>
  rw [hb] at h
  simp only [cond_false] at h
  cases hb : Nat.beq t 2 with
  | true =>
    rw [hb] at h
    have e := beq_t hb
    subst e
    simp only [cond_true] at h
    split at h
    · rename_i x hx
      cases h
      show zs1 2 a b v npc lv st _ = _
      simp only [zs1, hx]
      rfl
    · cases h
  | false =>
  rw [hb] at h
  simp only [cond_false] at h
  cases hb : Nat.beq t 19 with
  | true =>
    rw [hb] at h
    have e := beq_t hb
    subst e
    simp only [cond_true] at h
    split at h
    · rename_i y x q
      cases h
      show some (bif zcnd a x y then b else npc, lv, q, _) = _
      cases zcnd a x y <;> rfl
    · cases h
  | false =>
  rw [hb] at h
  simp only [cond_false] at h
  cases hb : Nat.beq t 8 with
  | true =>
    rw [hb] at h
    have e := beq_t hb
    subst e
    simp only [cond_true] at h
    split at h
    · rename_i x hx
      cases h
      show zs1 8 a b v npc lv st _ = _
      simp only [zs1, hx]
      rfl
    · cases h
  | false =>
  rw [hb] at h
  simp only [cond_false] at h
  cases hb : Nat.beq t 22 with
  | true =>
    rw [hb] at h
    have e := beq_t hb
    subst e
    simp only [cond_true] at h
    cases h
    rfl
  | false =>
  rw [hb] at h
  simp only [cond_false] at h
  cases hb : Nat.beq t 31 with
  | true =>
    rw [hb] at h
    have e := beq_t hb
    subst e
    simp only [cond_true] at h
    split at h
    · rename_i x y o q
      obtain ⟨hc, h⟩ := bif_some h
      obtain ⟨h1, h2, h3⟩ := band3 hc
      cases h
      have ho : ¬ o = 1000 := fun z => by
        rw [z] at h2
        cases h2
      show (if zobj (toW w0 (n, i, g, r)) o 101 = true ∧ ib y (zsh o).2 = true then some (npc, lv, q, sI (toW w0 (n, i, g, r)) o (ix y) x) else none) = _
      rw [if_pos ⟨zobj_b h1 h2, h3⟩]
      rfl
    · cases h
  | false =>
  rw [hb] at h
  simp only [cond_false] at h
  cases h
