/-! constructors: the small machine over worlds told by lists -/
/-- (object, kind, place, value): 0 all of it clean, 1 one place, 2 places below 144 -/
abbrev LG (V : Type) : Type := List (Nat × Nat × Nat × V)
def lk {V : Type} (z : V) (b0 : Nat → Nat → V) : LG V → Nat → Nat → V
  | [], a, b => b0 a b
  | e :: l, a, b => match e.2.1 with
    | 0 => if a = e.1 then z else lk z b0 l a b
    | 1 => if a = e.1 ∧ b = e.2.2.1 then e.2.2.2 else lk z b0 l a b
    | _ => if a = e.1 ∧ b < 144 then e.2.2.2 else lk z b0 l a b
def lfd {V : Type} (z : V) : LG V → Nat → Nat → Option V
  | [], _, _ => none
  | e :: l, a, b => match e.2.1 with
    | 0 => if a = e.1 then some z else lfd z l a b
    | 1 => if a = e.1 ∧ b = e.2.2.1 then some e.2.2.2 else lfd z l a b
    | _ => if a = e.1 ∧ b < 144 then some e.2.2.2 else lfd z l a b
abbrev LW : Type := Nat × LG Int32 × LG Int64 × LG (Option Nat)
def toW (w0 : Wd) (l : LW) : Wd := (l.1, wx w0, lk 0 (wI w0) l.2.1, lk 0 (wL w0) l.2.2.1, lk none (wR w0) l.2.2.2)
def lalc (l : LW) : LW := (l.1 + 1, (l.1, 0, 0, 0) :: l.2.1, (l.1, 0, 0, 0) :: l.2.2.1, (l.1, 0, 0, none) :: l.2.2.2)
def lobj (l : LW) (o c : Nat) : Bool := Nat.blt o l.1 && Nat.beq (zsh o).1 c
def dW : Wd := (0, 0, fun _ _ => 0, fun _ _ => 0, fun _ _ => none)
theorem lfd_lk {V : Type} {z : V} {b0 : Nat → Nat → V} {a b : Nat} {v : V} : ∀ l : LG V, lfd z l a b = some v → lk z b0 l a b = v := by
  intro l
  induction l with
  | nil => intro h; cases h
  | cons e l ih =>
    intro h
    obtain ⟨k, t, j, x⟩ := e
    match t with
    | 0 =>
      change (if a = k then some z else lfd z l a b) = some v at h
      show (if a = k then z else lk z b0 l a b) = v
      by_cases q : a = k
      · rw [if_pos q] at h ⊢; exact Option.some.inj h
      · rw [if_neg q] at h ⊢; exact ih h
    | 1 =>
      change (if a = k ∧ b = j then some x else lfd z l a b) = some v at h
      show (if a = k ∧ b = j then x else lk z b0 l a b) = v
      by_cases q : a = k ∧ b = j
      · rw [if_pos q] at h ⊢; exact Option.some.inj h
      · rw [if_neg q] at h ⊢; exact ih h
    | t + 2 =>
      change (if a = k ∧ b < 144 then some x else lfd z l a b) = some v at h
      show (if a = k ∧ b < 144 then x else lk z b0 l a b) = v
      by_cases q : a = k ∧ b < 144
      · rw [if_pos q] at h ⊢; exact Option.some.inj h
      · rw [if_neg q] at h ⊢; exact ih h
theorem toW_alc (w0 : Wd) (l : LW) : toW w0 (lalc l) = alc (toW w0 l) := rfl
theorem toW_sI (w0 : Wd) (n : Nat) (i : LG Int32) (g : LG Int64) (r : LG (Option Nat)) (o b : Nat) (x : Int32) : toW w0 (n, (o, 1, b, x) :: i, g, r) = sI (toW w0 (n, i, g, r)) o b x := rfl
theorem toW_sL (w0 : Wd) (n : Nat) (i : LG Int32) (g : LG Int64) (r : LG (Option Nat)) (o b : Nat) (x : Int64) : toW w0 (n, i, (o, 1, b, x) :: g, r) = sL (toW w0 (n, i, g, r)) o b x := rfl
theorem toW_sR (w0 : Wd) (n : Nat) (i : LG Int32) (g : LG Int64) (r : LG (Option Nat)) (o b : Nat) (x : Option Nat) : toW w0 (n, i, g, (o, 1, b, x) :: r) = sR (toW w0 (n, i, g, r)) o b x := rfl
theorem zobj_toW (w0 : Wd) (l : LW) (o c : Nat) : zobj (toW w0 l) o c = lobj l o c := rfl
def l2s (M : Mth) (t a b : Nat) (npc : Nat) (lv : List (Nat × Value)) (st : List Value) (l : LW) : Option (Nat × List (Nat × Value) × List Value × LW) := match t with
  | 49 => match st with
    | .ref o :: r => if lobj l o a = true then (match lfd none l.2.2.2 o b with
      | some q => some (npc, lv, va_rf q :: r, l)
      | none => none) else none
    | _ => none
  | 25 => match st with
    | .int x :: .ref o :: r => if lobj l o a = true ∧ zpf M a b = true then some (npc, lv, r, (l.1, (o, 1, b, x) :: l.2.1, l.2.2)) else none
    | _ => none
  | 52 => match st with
    | .int x :: .ref o :: r => if lobj l o a = true ∧ zpf M a b = true ∧ (x = 0 ∨ x = 1) then some (npc, lv, r, (l.1, (o, 1, b, x) :: l.2.1, l.2.2)) else none
    | _ => none
  | 51 => match st with
    | v :: .ref o :: r => match zref v with
      | some q => if lobj l o a = true ∧ zpf M a b = true then some (npc, lv, r, (l.1, l.2.1, l.2.2.1, (o, 1, b, q) :: l.2.2.2)) else none
      | none => none
    | _ => none
  | _ => none
def l3s (t a : Nat) (npc : Nat) (lv : List (Nat × Value)) (st : List Value) (l : LW) : Option (Nat × List (Nat × Value) × List Value × LW) := match t with
  | 32 => match st with
    | .long x :: .int i :: .ref o :: r => if lobj l o 102 = true ∧ ib i (zsh o).2 = true then some (npc, lv, r, (l.1, l.2.1, (o, 1, ix i, x) :: l.2.2.1, l.2.2.2)) else none
    | _ => none
  | 34 => match st with
    | .ref q :: .int i :: .ref o :: r => if (lobj l o 111 = true ∧ lobj l q 1 = true ∨ lobj l o 115 = true ∧ lobj l q 5 = true ∨ lobj l o 116 = true ∧ lobj l q 6 = true) ∧ ib i (zsh o).2 = true then some (npc, lv, r, (l.1, l.2.1, l.2.2.1, (o, 1, ix i, some q) :: l.2.2.2)) else none
    | _ => none
  | 36 => if l.1 < zK ∧ (zsh l.1).1 = a ∧ a < 11 then some (npc, lv, .ref l.1 :: st, lalc l) else none
  | 37 => match st with
    | .int n :: r => if l.1 < zK ∧ (zsh l.1).1 = a ∧ 101 ≤ a ∧ a ≤ 104 ∧ 0 ≤ n ∧ ix n = (zsh l.1).2 then some (npc, lv, .ref l.1 :: r, lalc l) else none
    | _ => none
  | 38 => match st with
    | .int n :: r => if l.1 < zK ∧ (zsh l.1).1 = 110 + a ∧ (a = 1 ∨ a = 5 ∨ a = 6) ∧ 0 ≤ n ∧ ix n = (zsh l.1).2 then some (npc, lv, .ref l.1 :: r, lalc l) else none
    | _ => none
  | _ => none
def lstep (M : Mth) (op : Op4) (npc : Nat) (lv : List (Nat × Value)) (st : List Value) (l : LW) : Option (Nat × List (Nat × Value) × List Value × LW) := match zgr op.1 with
  | 2 => l2s M op.1 op.2.1 op.2.2.1 npc lv st l
  | 3 => l3s op.1 op.2.1 npc lv st l
  | _ => (zs1 op.1 op.2.1 op.2.2.1 op.2.2.2 npc lv st dW).map fun c => (c.1, c.2.1, c.2.2.1, l)
theorem zs1_w {t a b npc : Nat} {v : Int32} {lv : List (Nat × Value)} {st : List Value} {w w' : Wd} {c : Cfg} (h : zs1 t a b v npc lv st w = some c) : zs1 t a b v npc lv st w' = some (c.1, c.2.1, c.2.2.1, w') := by
  unfold zs1 at h ⊢
  repeat' split at h
  all_goals first
    | (cases h; done)
    | (cases h; simp_all; done)
    | (rw [Option.map_eq_some_iff] at h; obtain ⟨z, e, h⟩ := h; cases h; simp_all; done)
theorem l2_ok {M : Mth} {t a b npc : Nat} {lv : List (Nat × Value)} {st : List Value} {l : LW} {w0 : Wd} {q : Nat × List (Nat × Value) × List Value × LW} (h : l2s M t a b npc lv st l = some q) : zs2 M t a b npc lv st (toW w0 l) = some (q.1, q.2.1, q.2.2.1, toW w0 q.2.2.2) := by
  unfold l2s at h
  split at h
  · split at h
    · rename_i o r
      split at h
      · rename_i hc
        split at h
        · rename_i x hx
          cases h
          have e : wR (toW w0 l) o b = x := lfd_lk _ hx
          show (if zobj (toW w0 l) o a = true then _ else _) = _
          rw [zobj_toW, if_pos hc, e]
        · cases h
      · cases h
    · cases h
  · split at h
    · split at h
      · rename_i hc
        cases h
        show (if zobj (toW w0 l) _ a = true ∧ _ then _ else _) = _
        rw [zobj_toW, if_pos hc]
        rfl
      · cases h
    · cases h
  · split at h
    · split at h
      · rename_i hc
        cases h
        show (if zobj (toW w0 l) _ a = true ∧ _ then _ else _) = _
        rw [zobj_toW, if_pos hc]
        rfl
      · cases h
    · cases h
  · split at h
    · rename_i v o r
      split at h
      · rename_i x hx
        split at h
        · rename_i hc
          cases h
          show (match zref v with
            | some q => if zobj (toW w0 l) o a = true ∧ zpf M a b = true then some (npc, lv, r, sR (toW w0 l) o b q) else none
            | none => none) = _
          rw [hx]
          dsimp only
          rw [zobj_toW, if_pos hc]
          rfl
        · cases h
      · cases h
    · cases h
  · cases h
theorem l3_ok {t a npc : Nat} {lv : List (Nat × Value)} {st : List Value} {l : LW} {w0 : Wd} {q : Nat × List (Nat × Value) × List Value × LW} (h : l3s t a npc lv st l = some q) : zs3 t a npc lv st (toW w0 l) = some (q.1, q.2.1, q.2.2.1, toW w0 q.2.2.2) := by
  unfold l3s at h
  split at h
  · split at h
    · split at h
      · rename_i hc
        cases h
        show (if zobj (toW w0 l) _ 102 = true ∧ _ then _ else _) = _
        rw [zobj_toW, if_pos hc]
        rfl
      · cases h
    · cases h
  · split at h
    · split at h
      · rename_i hc
        cases h
        show (if (zobj (toW w0 l) _ 111 = true ∧ zobj (toW w0 l) _ 1 = true ∨ zobj (toW w0 l) _ 115 = true ∧ zobj (toW w0 l) _ 5 = true ∨ zobj (toW w0 l) _ 116 = true ∧ zobj (toW w0 l) _ 6 = true) ∧ _ then _ else _) = _
        rw [zobj_toW, zobj_toW, zobj_toW, zobj_toW, zobj_toW, zobj_toW, if_pos hc]
        rfl
      · cases h
    · cases h
  · split at h
    · rename_i hc
      cases h
      show (if l.1 < zK ∧ (zsh l.1).1 = a ∧ a < 11 then some (npc, lv, Value.ref l.1 :: st, alc (toW w0 l)) else none) = _
      rw [if_pos hc]
      rfl
    · cases h
  · split at h
    · rename_i n r
      split at h
      · rename_i hc
        cases h
        show (if l.1 < zK ∧ (zsh l.1).1 = a ∧ 101 ≤ a ∧ a ≤ 104 ∧ 0 ≤ n ∧ ix n = (zsh l.1).2 then some (npc, lv, Value.ref l.1 :: r, alc (toW w0 l)) else none) = _
        rw [if_pos hc]
        rfl
      · cases h
    · cases h
  · split at h
    · rename_i n r
      split at h
      · rename_i hc
        cases h
        show (if l.1 < zK ∧ (zsh l.1).1 = 110 + a ∧ (a = 1 ∨ a = 5 ∨ a = 6) ∧ 0 ≤ n ∧ ix n = (zsh l.1).2 then some (npc, lv, Value.ref l.1 :: r, alc (toW w0 l)) else none) = _
        rw [if_pos hc]
        rfl
      · cases h
    · cases h
  · cases h
theorem lstep_ok {M : Mth} {op : Op4} {npc : Nat} {lv : List (Nat × Value)} {st : List Value} {l : LW} {w0 : Wd} {q : Nat × List (Nat × Value) × List Value × LW} (h : lstep M op npc lv st l = some q) : zst' M op npc lv st (toW w0 l) = some (q.1, q.2.1, q.2.2.1, toW w0 q.2.2.2) := by
  unfold lstep at h
  unfold zst'
  split at h
  · rename_i hg
    rw [hg]
    exact l2_ok h
  · rename_i hg
    rw [hg]
    exact l3_ok h
  · rename_i n2 n3
    rw [Option.map_eq_some_iff] at h
    obtain ⟨c, hc, e⟩ := h
    have hz := zs1_w (w' := toW w0 l) hc
    cases e
    split
    · rename_i y; exact absurd y n2
    · rename_i y; exact absurd y n3
    · exact hz
