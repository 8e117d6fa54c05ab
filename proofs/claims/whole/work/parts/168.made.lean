/-! the world when both systems are made -/
/-- nothing but 0 is told of a since it was made -/
def zzB : LG Int32 → Nat → Bool
  | [], _ => false
  | e :: l, a => bif Nat.beq e.1 a then (bif Nat.beq e.2.1 0 then true else decide (e.2.2.2 = 0) && zzB l a) else zzB l a
/-- .. but at the place j -/
def zxB (j : Nat) : LG Int32 → Nat → Bool
  | [], _ => false
  | e :: l, a => bif Nat.beq e.1 a then (bif Nat.beq e.2.1 0 then true else Nat.beq e.2.1 1 && ((decide (e.2.2.2 = 0) || Nat.beq e.2.2.1 j) && zxB j l a)) else zxB j l a
/-- the latest of a is: -1 at all places below 144 -/
def zfB : LG Int32 → Nat → Bool
  | [], _ => false
  | e :: l, a => bif Nat.beq e.1 a then Nat.beq e.2.1 2 && decide (e.2.2.2 = -1) else zfB l a
def znB {V : Type} : LG V → Nat → Bool
  | [], _ => true
  | e :: l, a => (!Nat.beq e.1 a) && znB l a
section LKF
variable {b0 : Nat → Nat → Int32} {a b j : Nat}
theorem nbeq_f {a b : Nat} (h : Nat.beq a b = false) : ¬ a = b := fun e => by
  rw [e, Nat.beq_refl] at h
  cases h
theorem lk_cons {V : Type} {z : V} {b1 : Nat → Nat → V} {e : Nat × Nat × Nat × V} {l : LG V} (h : ¬ a = e.1) : lk z b1 (e :: l) a b = lk z b1 l a b := by
  obtain ⟨k, t, p, v⟩ := e
  match t with
  | 0 => exact if_neg h
  | 1 => exact if_neg (fun q => h q.1)
  | t + 2 => exact if_neg (fun q => h q.1)
theorem lk_none {V : Type} {z : V} {b1 : Nat → Nat → V} : ∀ l : LG V, znB l a = true → lk z b1 l a b = b1 a b := by
  intro l
  induction l with
  | nil => intro _; rfl
  | cons e l ih =>
    intro h
    unfold znB at h
    rw [Bool.and_eq_true] at h
    have hn : ¬ e.1 = a := nbeq_f (by
      cases q : Nat.beq e.1 a with
      | false => rfl
      | true => rw [q] at h; cases h.1)
    rw [lk_cons (fun y => hn y.symm)]
    exact ih h.2
theorem lk_zz : ∀ l : LG Int32, zzB l a = true → lk 0 b0 l a b = 0 := by
  intro l
  induction l with
  | nil => intro h; cases h
  | cons e l ih =>
    intro h
    unfold zzB at h
    cases q : Nat.beq e.1 a with
    | false =>
      rw [q] at h
      rw [lk_cons (fun y => nbeq_f q y.symm)]
      exact ih h
    | true =>
      rw [q] at h
      have e1 := beq_t q
      obtain ⟨k, t, p, v⟩ := e
      dsimp only at e1 h
      subst e1
      match t with
      | 0 => exact if_pos rfl
      | 1 =>
        simp only [cond_true] at h
        have h := h
        change (decide (v = 0) && zzB l k) = true at h
        rw [Bool.and_eq_true, decide_eq_true_eq] at h
        show (if k = k ∧ b = p then v else lk 0 b0 l k b) = 0
        split
        · exact h.1
        · exact ih h.2
      | t + 2 =>
        simp only [cond_true] at h
        change (decide (v = 0) && zzB l k) = true at h
        rw [Bool.and_eq_true, decide_eq_true_eq] at h
        show (if k = k ∧ b < 144 then v else lk 0 b0 l k b) = 0
        split
        · exact h.1
        · exact ih h.2
theorem lk_zx (hb : ¬ b = j) : ∀ l : LG Int32, zxB j l a = true → lk 0 b0 l a b = 0 := by
  intro l
  induction l with
  | nil => intro h; cases h
  | cons e l ih =>
    intro h
    unfold zxB at h
    cases q : Nat.beq e.1 a with
    | false =>
      rw [q] at h
      rw [lk_cons (fun y => nbeq_f q y.symm)]
      exact ih h
    | true =>
      rw [q] at h
      have e1 := beq_t q
      obtain ⟨k, t, p, v⟩ := e
      dsimp only at e1 h
      subst e1
      match t with
      | 0 => exact if_pos rfl
      | 1 =>
        simp only [cond_true] at h
        change (true && ((decide (v = 0) || Nat.beq p j) && zxB j l k)) = true at h
        rw [Bool.true_and, Bool.and_eq_true, Bool.or_eq_true, decide_eq_true_eq] at h
        show (if k = k ∧ b = p then v else lk 0 b0 l k b) = 0
        split
        · rename_i hq
          rcases h.1 with y | y
          · exact y
          · exact absurd (hq.2.trans (beq_t y)) hb
        · exact ih h.2
      | t + 2 =>
        simp only [cond_true] at h
        exact absurd h (by
          intro y
          change (Nat.beq (t + 2) 1 && ((decide (v = 0) || Nat.beq p j) && zxB j l k)) = true at y
          rw [Bool.and_eq_true] at y
          have := beq_t y.1
          omega)
theorem lk_zf (hb : b < 144) : ∀ l : LG Int32, zfB l a = true → lk 0 b0 l a b = -1 := by
  intro l
  induction l with
  | nil => intro h; cases h
  | cons e l ih =>
    intro h
    unfold zfB at h
    cases q : Nat.beq e.1 a with
    | false =>
      rw [q] at h
      rw [lk_cons (fun y => nbeq_f q y.symm)]
      exact ih h
    | true =>
      rw [q] at h
      have e1 := beq_t q
      obtain ⟨k, t, p, v⟩ := e
      dsimp only at e1 h
      subst e1
      simp only [cond_true] at h
      rw [Bool.and_eq_true, decide_eq_true_eq] at h
      have h2 := beq_t h.1
      subst h2
      show (if k = k ∧ b < 144 then v else lk 0 b0 l k b) = -1
      rw [if_pos ⟨rfl, hb⟩]
      exact h.2
end LKF
def opN (o : Option (Option Nat)) (v : Nat) : Bool := match o with
  | some (some x) => Nat.beq x v
  | _ => false
theorem opN_t {o : Option (Option Nat)} {v : Nat} (h : opN o v = true) : o = some (some v) := by
  unfold opN at h
  split at h
  · rw [beq_t h]
  · cases h
/-- what is asked of the first system's lists -/
def chk1 (n : Nat) (i : LG Int32) (r : LG (Option Nat)) : Bool := Nat.beq n 166 && ((List.range 166).all (fun t => (List.range 60).all (fun j => match zofs (zsh t).1 j with
    | some o => opN (lfd none r t j) (t + o)
    | none => true)) && (opN (lfd none r 6 0) 1 && (opN (lfd none r 0 2) 7 && (opN (lfd none r 0 3) 17 && (opN (lfd none r 0 4) 27 && (opN (lfd none r 0 5) 31 && ((List.range 6).all (fun k => opN (lfd none r 43 k) (74 + 8 * k)) && ((List.range 2).all (fun k => opN (lfd none r 44 k) (122 + 22 * k)) && ((List.range 2).all (fun k => opN (lfd none r 45 k) (132 + 22 * k)) && ((List.range 2).all (fun k => opN (lfd none r 46 k) (140 + 22 * k)) && ([0, 1, 7, 15, 27, 35, 36, 37, 42, 47].all (fun k => zzB i k) && (zfB i 38 && (zxB 0 i 48 && (decide (lfd 0 i 48 0 = some (-1)) && (decide (lfd 0 i 60 6 = some 0) && (decide (lfd 0 i 67 8 = some 0) && (znB i 1000 && (znB i 1003))))))))))))))))))
/-- .. and of the other's -/
def chk2 (n : Nat) (i : LG Int32) (g : LG Int64) (r : LG (Option Nat)) : Bool := Nat.beq n 191 && ((List.range 60).all (fun j => match zofs 10 j with
    | some o => opN (lfd none r 166 j) (166 + o)
    | none => true) && ((List.range 166).all (fun t => znB i t) && ((List.range 166).all (fun t => znB r t) && (znB i 1000 && (znB i 1003 && (zxB 28 i 166 && (decide (lfd 0 i 166 28 = some (-1)) && (zxB 6 i 168 && (decide (lfd 0 i 168 6 = some 9) && (zzB i 190 && ((List.range 20).all (fun j => (List.range 20).any (fun k => decide (lfd 0 g 172 j = some (lN (en8 (wdL k)))))) && ((List.range 20).all (fun k => (List.range 20).any (fun j => decide (lfd 0 g 172 j = some (lN (en8 (wdL k))))))))))))))))))
theorem lini_1 : (match mcall 2 1 [.ref 0] (lalc (0, [], [], [])) with
  | some (none, n, i, _, r) => chk1 n i r
  | _ => false) = true := by decide +kernel
theorem lini_2 : (match mcall 1 188 [.ref 166] (lalc (166, [], [], [])) with
  | some (none, n, i, g, r) => chk2 n i g r
  | _ => false) = true := by decide +kernel
