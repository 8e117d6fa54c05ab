/-! WORLDS OF NUMBERED OBJECTS: a world holds, for each object k and place j, an int, a long, a reference (to an object by its number);
how many objects are made (wn), how many exceptions (wx). A small machine moves over it; what it reaches the real machine reaches. -/
def FU : Nat := 1099511627776000
abbrev Wd : Type := Nat × Nat × (Nat → Nat → Int32) × (Nat → Nat → Int64) × (Nat → Nat → Option Nat)
def wn (w : Wd) : Nat := w.1
def wx (w : Wd) : Nat := w.2.1
def wI (w : Wd) : Nat → Nat → Int32 := w.2.2.1
def wL (w : Wd) : Nat → Nat → Int64 := w.2.2.2.1
def wR (w : Wd) : Nat → Nat → Option Nat := w.2.2.2.2
def sI (w : Wd) (k j : Nat) (v : Int32) : Wd := (wn w, wx w, fun a b => if a = k ∧ b = j then v else wI w a b, wL w, wR w)
def sL (w : Wd) (k j : Nat) (v : Int64) : Wd := (wn w, wx w, wI w, fun a b => if a = k ∧ b = j then v else wL w a b, wR w)
def sR (w : Wd) (k j : Nat) (v : Option Nat) : Wd := (wn w, wx w, wI w, wL w, fun a b => if a = k ∧ b = j then v else wR w a b)
/-- a whole row -/
def rI (w : Wd) (k : Nat) (f : Nat → Int32) : Wd := (wn w, wx w, fun a b => if a = k then f b else wI w a b, wL w, wR w)
def rL (w : Wd) (k : Nat) (f : Nat → Int64) : Wd := (wn w, wx w, wI w, fun a b => if a = k then f b else wL w a b, wR w)
/-- one object more, all of it 0 or null -/
def alc (w : Wd) : Wd := (wn w + 1, wx w, fun a b => if a = wn w then 0 else wI w a b, fun a b => if a = wn w then 0 else wL w a b, fun a b => if a = wn w then none else wR w a b)
/-- an exception more -/
def exc (w : Wd) : Wd := (wn w, wx w + 1, wI w, wL w, wR w)
theorem wn_sI (w : Wd) (k j : Nat) (v : Int32) : wn (sI w k j v) = wn w := rfl
theorem wn_sL (w : Wd) (k j : Nat) (v : Int64) : wn (sL w k j v) = wn w := rfl
theorem wn_sR (w : Wd) (k j : Nat) (v : Option Nat) : wn (sR w k j v) = wn w := rfl
theorem wn_rI (w : Wd) (k : Nat) (f : Nat → Int32) : wn (rI w k f) = wn w := rfl
theorem wn_rL (w : Wd) (k : Nat) (f : Nat → Int64) : wn (rL w k f) = wn w := rfl
theorem wx_sI (w : Wd) (k j : Nat) (v : Int32) : wx (sI w k j v) = wx w := rfl
theorem wx_sL (w : Wd) (k j : Nat) (v : Int64) : wx (sL w k j v) = wx w := rfl
theorem wx_sR (w : Wd) (k j : Nat) (v : Option Nat) : wx (sR w k j v) = wx w := rfl
theorem wx_rI (w : Wd) (k : Nat) (f : Nat → Int32) : wx (rI w k f) = wx w := rfl
theorem wx_rL (w : Wd) (k : Nat) (f : Nat → Int64) : wx (rL w k f) = wx w := rfl
theorem wR_sI (w : Wd) (k j : Nat) (v : Int32) : wR (sI w k j v) = wR w := rfl
theorem wR_sL (w : Wd) (k j : Nat) (v : Int64) : wR (sL w k j v) = wR w := rfl
theorem wR_rI (w : Wd) (k : Nat) (f : Nat → Int32) : wR (rI w k f) = wR w := rfl
theorem wR_rL (w : Wd) (k : Nat) (f : Nat → Int64) : wR (rL w k f) = wR w := rfl
theorem wL_sI (w : Wd) (k j : Nat) (v : Int32) : wL (sI w k j v) = wL w := rfl
theorem wL_sR (w : Wd) (k j : Nat) (v : Option Nat) : wL (sR w k j v) = wL w := rfl
theorem wL_rI (w : Wd) (k : Nat) (f : Nat → Int32) : wL (rI w k f) = wL w := rfl
theorem wI_sL (w : Wd) (k j : Nat) (v : Int64) : wI (sL w k j v) = wI w := rfl
theorem wI_sR (w : Wd) (k j : Nat) (v : Option Nat) : wI (sR w k j v) = wI w := rfl
theorem wI_rL (w : Wd) (k : Nat) (f : Nat → Int64) : wI (rL w k f) = wI w := rfl
theorem wI_sI (w : Wd) (k j : Nat) (v : Int32) (a b : Nat) : wI (sI w k j v) a b = if a = k ∧ b = j then v else wI w a b := rfl
theorem wL_sL (w : Wd) (k j : Nat) (v : Int64) (a b : Nat) : wL (sL w k j v) a b = if a = k ∧ b = j then v else wL w a b := rfl
theorem wR_sR (w : Wd) (k j : Nat) (v : Option Nat) (a b : Nat) : wR (sR w k j v) a b = if a = k ∧ b = j then v else wR w a b := rfl
theorem wI_rI (w : Wd) (k : Nat) (f : Nat → Int32) (a b : Nat) : wI (rI w k f) a b = if a = k then f b else wI w a b := rfl
theorem wL_rL (w : Wd) (k : Nat) (f : Nat → Int64) (a b : Nat) : wL (rL w k f) a b = if a = k then f b else wL w a b := rfl
theorem wR_exc (w : Wd) : wR (exc w) = wR w := rfl
theorem wL_exc (w : Wd) : wL (exc w) = wL w := rfl
theorem wI_exc (w : Wd) : wI (exc w) = wI w := rfl
theorem wn_exc (w : Wd) : wn (exc w) = wn w := rfl
/-! ops of the small machine: (tag, a, b, v); a row of code: (pc, next pc, op); a method: (number, class, arguments, its end's kind, locals, code) -/
abbrev Op4 : Type := Nat × Nat × Nat × Int32
abbrev Mth : Type := Nat × Nat × Nat × Nat × Nat × List (Nat × Nat × Op4)
def mNum (M : Mth) : Nat := M.1
def mCls (M : Mth) : Nat := M.2.1
def mArg (M : Mth) : Nat := M.2.2.1
/-- 0 void, 1 int, 2 boolean, 3 long, 4 reference -/
def mRet (M : Mth) : Nat := M.2.2.2.1
def mLoc (M : Mth) : Nat := M.2.2.2.2.1
def mCode (M : Mth) : List (Nat × Nat × Op4) := M.2.2.2.2.2
def opAt : List (Nat × Nat × Op4) → Nat → Option (Op4 × Nat)
  | [], _ => none
  | r :: l, pc => bif Nat.beq r.1 pc then some (r.2.2, r.2.1) else opAt l pc
abbrev Cfg : Type := Nat × List (Nat × Value) × List Value × Wd
def lgt : List (Nat × Value) → Nat → Option Value
  | [], _ => none
  | q :: l, i => bif Nat.beq q.1 i then some q.2 else lgt l i
def lst1 (lv : List (Nat × Value)) (i : Nat) (v : Value) : List (Nat × Value) := (i, v) :: lv.filter (fun q => !(q.1 == i) && !(q.1 + 1 == i && q.2.category == 2))
def lst2 (lv : List (Nat × Value)) (i : Nat) (v : Value) : List (Nat × Value) := (i, v) :: lv.filter (fun q => !(q.1 == i) && (!(q.1 == i + 1) && !(q.1 + 1 == i && q.2.category == 2)))
/-- an index as a place -/
abbrev ix (i : Int32) : Nat := i.toNatClampNeg
/-- an index within a row of n -/
def ib (i : Int32) (n : Nat) : Bool := decide (0 ≤ i) && decide (ix i < n)
theorem ib_vp {i : Int32} {n : Nat} (h : ib i n = true) : vp_in i n := by
  simp only [ib, Bool.and_eq_true, decide_eq_true_eq] at h
  intro q
  rcases q with q | q
  · exact absurd h.1 (by simpa [Int32.not_le] using q)
  · exact absurd h.2 (Nat.not_lt.mpr q)
def zrem (x y : Int32) : Int32 := x - x / y * y
def zush (x y : Int32) : Int32 := (x.toUInt32 >>> (y.toUInt32 &&& Int32.toUInt32 31)).toInt32
/-- whole-number operations of two ints -/
def zbin (a : Nat) (x y : Int32) : Option Int32 := match a with
  | 0 => some (x + y)
  | 1 => some (x - y)
  | 2 => some (x * y)
  | 3 => if y = 0 then none else some (x / y)
  | 4 => if y = 0 then none else some (zrem x y)
  | 5 => some (x &&& y)
  | 6 => some (x ||| y)
  | 7 => some (x ^^^ y)
  | 8 => some (x <<< (y &&& 31))
  | 9 => some (x >>> (y &&& 31))
  | 10 => some (zush x y)
  | _ => none
def zlbin (a : Nat) (x y : Int64) : Option Int64 := match a with
  | 0 => some (x + y)
  | 1 => some (x * y)
  | 2 => some (x ||| y)
  | _ => none
def zcnd (a : Nat) (x y : Int32) : Bool := match a with
  | 0 => decide (x = y)
  | 1 => !decide (x = y)
  | 2 => decide (x < y)
  | 3 => decide (y ≤ x)
  | 4 => decide (y < x)
  | _ => decide (x ≤ y)
def zref (v : Value) : Option (Option Nat) := match v with
  | .ref k => some (some k)
  | .null => some none
  | _ => none
/-- numbers of constants of the enum -/
def zwk (o : Option Nat) : Bool := match o with
  | some k => decide (1010 ≤ k) && decide (k < 1030)
  | none => true
