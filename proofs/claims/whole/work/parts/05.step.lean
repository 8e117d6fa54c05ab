/-! one step of the small machine, but for calls and ends -/
def mTgt (pc : Nat) (off : Int) : Nat := ((pc : Int) + off).toNat
/-- a field read -/
def zfv (kd : Nat) (w : Wd) (k j : Nat) : Value := match kd with
  | 0 => .int (wI w k j)
  | 1 => .long (wL w k j)
  | _ => va_rf (wR w k j)
def zobj (w : Wd) (o c : Nat) : Bool := Nat.blt o (wn w) && Nat.beq (zsh o).1 c
def zsw3 (a : Nat) (x : Int32) : Nat := let s := zsw a; if x.toInt < s.1 ∨ s.1 + (s.2.1.length : Int) ≤ x.toInt then s.2.2 else s.2.1.getD (x.toInt - s.1).toNat s.2.2
/-- ops that touch locals and stack alone -/
def zs1 (t a b : Nat) (v : Int32) (npc : Nat) (lv : List (Nat × Value)) (st : List Value) (w : Wd) : Option Cfg := match t with
  | 0 => some (npc, lv, .int v :: st, w)
  | 1 => some (npc, lv, .long (zlc a) :: st, w)
  | 2 => match lgt lv a with
    | some (.int x) => some (npc, lv, .int x :: st, w)
    | _ => none
  | 3 => match lgt lv a with
    | some (.long x) => some (npc, lv, .long x :: st, w)
    | _ => none
  | 4 => match lgt lv a with
    | some (.ref x) => some (npc, lv, .ref x :: st, w)
    | some .null => some (npc, lv, .null :: st, w)
    | _ => none
  | 5 => match st with
    | .int x :: r => some (npc, lst1 lv a (.int x), r, w)
    | _ => none
  | 6 => match st with
    | .long x :: r => some (npc, lst2 lv a (.long x), r, w)
    | _ => none
  | 7 => match st with
    | .ref x :: r => some (npc, lst1 lv a (.ref x), r, w)
    | .null :: r => some (npc, lst1 lv a .null, r, w)
    | _ => none
  | 8 => match lgt lv a with
    | some (.int x) => some (npc, lst1 lv a (.int (x + v)), st, w)
    | _ => none
  | 9 => match st with
    | .int y :: .int x :: r => (zbin a x y).map fun z => (npc, lv, .int z :: r, w)
    | _ => none
  | 10 => match st with
    | .long y :: .long x :: r => (zlbin a x y).map fun z => (npc, lv, .long z :: r, w)
    | _ => none
  | 11 => match st with
    | .long y :: .long x :: r => some (npc, lv, .int (lg_cmp x y) :: r, w)
    | _ => none
  | 12 => match st with
    | .int x :: r => some (npc, lv, .long x.toInt64 :: r, w)
    | _ => none
  | 13 => match st with
    | .long x :: r => some (npc, lv, .int x.toInt32 :: r, w)
    | _ => none
  | 14 => match st with
    | .int x :: r => some (npc, lv, .int x.toInt8.toInt32 :: r, w)
    | _ => none
  | 15 => match st with
    | x :: r => if x.category = 1 then some (npc, lv, x :: x :: r, w) else none
    | _ => none
  | 16 => match st with
    | x :: r => if x.category = 1 then some (npc, lv, r, w) else none
    | _ => none
  | 17 => match st with
    | x :: y :: r => if x.category = 1 ∧ y.category = 1 then some (npc, lv, x :: y :: x :: y :: r, w) else none
    | _ => none
  | 18 => match st with
    | .int x :: r => some (bif zcnd a x 0 then b else npc, lv, r, w)
    | _ => none
  | 19 => match st with
    | .int y :: .int x :: r => some (bif zcnd a x y then b else npc, lv, r, w)
    | _ => none
  | 20 => match st with
    | vy :: vx :: r => match zref vx, zref vy with
      | some x, some y => if zwk x = true ∧ zwk y = true then some (bif Nat.beq a 0 == decide (x = y) then b else npc, lv, r, w) else none
      | _, _ => none
    | _ => none
  | 21 => match st with
    | .null :: r => some (bif Nat.beq a 0 then b else npc, lv, r, w)
    | .ref _ :: r => some (bif Nat.beq a 0 then npc else b, lv, r, w)
    | _ => none
  | 22 => some (b, lv, st, w)
  | 23 => match st with
    | .int x :: r => some (zsw3 a x, lv, r, w)
    | _ => none
  | 26 => some (npc, lv, .ref a :: st, w)
  | 45 => some (npc, lv, .null :: st, w)
  | 46 => match st with
    | .ref _ :: r => if (r.map fun v => v.category).sum ≤ 8 then some (npc, lv, r, w) else none
    | _ => none
  | 53 => match st with
    | .int x :: r => some (npc, lv, .int (-x) :: r, w)
    | _ => none
  | 54 => match st with
    | .int y :: .long x :: r => some (npc, lv, .long (x <<< (y.toInt64 &&& 63)) :: r, w)
    | _ => none
  | _ => none
/-- ops that touch the world: fields -/
def zs2 (M : Mth) (t a b : Nat) (npc : Nat) (lv : List (Nat × Value)) (st : List Value) (w : Wd) : Option Cfg := match t with
  | 24 => match st with
    | .ref o :: r => if zobj w o a = true then some (npc, lv, .int (wI w o b) :: r, w) else none
    | _ => none
  | 48 => match st with
    | .ref o :: r => if zobj w o a = true then some (npc, lv, .long (wL w o b) :: r, w) else none
    | _ => none
  | 49 => match st with
    | .ref o :: r => if zobj w o a = true then some (npc, lv, va_rf (wR w o b) :: r, w) else none
    | _ => none
  | 25 => match st with
    | .int x :: .ref o :: r => if zobj w o a = true ∧ zpf M a b = true then some (npc, lv, r, sI w o b x) else none
    | _ => none
  | 52 => match st with
    | .int x :: .ref o :: r => if zobj w o a = true ∧ zpf M a b = true ∧ (x = 0 ∨ x = 1) then some (npc, lv, r, sI w o b x) else none
    | _ => none
  | 50 => match st with
    | .long x :: .ref o :: r => if zobj w o a = true ∧ zpf M a b = true then some (npc, lv, r, sL w o b x) else none
    | _ => none
  | 51 => match st with
    | v :: .ref o :: r => match zref v with
      | some q => if zobj w o a = true ∧ zpf M a b = true then some (npc, lv, r, sR w o b q) else none
      | none => none
    | _ => none
  | 47 => match st with
    | .ref o :: r => if 1010 ≤ o ∧ o < 1030 then some (npc, lv, (match a with
        | 0 => .long (zwc (o - 1010))
        | 1 => .int (zwd (o - 1010))
        | _ => .int (zwm (o - 1010))) :: r, w) else none
    | _ => none
  | _ => none
/-- .. rows, new objects -/
def zs3 (t a : Nat) (npc : Nat) (lv : List (Nat × Value)) (st : List Value) (w : Wd) : Option Cfg := match t with
  | 27 => match st with
    | .int i :: .ref o :: r => if o = 1000 then (if ib i (ix (wI w 1003 0)) = true then some (npc, lv, .int (wI w 1000 (ix i)) :: r, w) else none) else
        if zobj w o 101 = true ∧ ib i (zsh o).2 = true then some (npc, lv, .int (wI w o (ix i)) :: r, w) else none
    | _ => none
  | 28 => match st with
    | .int i :: .ref o :: r => if zobj w o 102 = true ∧ ib i (zsh o).2 = true then some (npc, lv, .long (wL w o (ix i)) :: r, w) else none
    | _ => none
  | 29 => match st with
    | .int i :: .ref o :: r => if (zobj w o 103 = true ∨ zobj w o 104 = true) ∧ ib i (zsh o).2 = true then some (npc, lv, .int (wI w o (ix i)) :: r, w) else none
    | _ => none
  | 30 => match st with
    | .int i :: .ref o :: r => if o = 1001 then (if ib i 20 = true then some (npc, lv, .ref (1010 + ix i) :: r, w) else none) else
        if (zobj w o 111 = true ∨ zobj w o 115 = true ∨ zobj w o 116 = true) ∧ ib i (zsh o).2 = true then some (npc, lv, va_rf (wR w o (ix i)) :: r, w) else none
    | _ => none
  | 31 => match st with
    | .int x :: .int i :: .ref o :: r => if zobj w o 101 = true ∧ ib i (zsh o).2 = true then some (npc, lv, r, sI w o (ix i) x) else none
    | _ => none
  | 32 => match st with
    | .long x :: .int i :: .ref o :: r => if zobj w o 102 = true ∧ ib i (zsh o).2 = true then some (npc, lv, r, sL w o (ix i) x) else none
    | _ => none
  | 33 => match st with
    | .int x :: .int i :: .ref o :: r => if zobj w o 103 = true ∧ ib i (zsh o).2 = true then some (npc, lv, r, sI w o (ix i) (vp_nar .byte x)) else
        if zobj w o 104 = true ∧ ib i (zsh o).2 = true then some (npc, lv, r, sI w o (ix i) (vp_nar .boolean x)) else none
    | _ => none
  | 34 => match st with
    | .ref q :: .int i :: .ref o :: r => if (zobj w o 111 = true ∧ zobj w q 1 = true ∨ zobj w o 115 = true ∧ zobj w q 5 = true ∨ zobj w o 116 = true ∧ zobj w q 6 = true) ∧ ib i (zsh o).2 = true then some (npc, lv, r, sR w o (ix i) (some q)) else none
    | _ => none
  | 35 => match st with
    | .ref o :: r => if o = 1000 then some (npc, lv, .int (wI w 1003 0) :: r, w) else if o = 1001 then some (npc, lv, .int 20 :: r, w) else none
    | _ => none
  | 36 => if wn w < zK ∧ (zsh (wn w)).1 = a ∧ a < 11 then some (npc, lv, .ref (wn w) :: st, alc w) else none
  | 37 => match st with
    | .int n :: r => if wn w < zK ∧ (zsh (wn w)).1 = a ∧ 101 ≤ a ∧ a ≤ 104 ∧ 0 ≤ n ∧ ix n = (zsh (wn w)).2 then some (npc, lv, .ref (wn w) :: r, alc w) else none
    | _ => none
  | 38 => match st with
    | .int n :: r => if wn w < zK ∧ (zsh (wn w)).1 = 110 + a ∧ (a = 1 ∨ a = 5 ∨ a = 6) ∧ 0 ≤ n ∧ ix n = (zsh (wn w)).2 then some (npc, lv, .ref (wn w) :: r, alc w) else none
    | _ => none
  | 40 => match st with
    | .int n :: .int dp :: .ref q :: .int sp :: .ref o :: r =>
      if (r.map fun v => v.category).sum ≤ 8 ∧ 0 ≤ sp ∧ 0 ≤ dp ∧ 0 ≤ n ∧ ix sp + ix n ≤ (zsh o).2 ∧ ix dp + ix n ≤ (zsh q).2 then
        (if zobj w o 101 = true ∧ zobj w q 101 = true then some (npc, lv, r, rI w q (va_cpy (wI w o) (wI w q) (ix sp) (ix dp) (ix n))) else
         if zobj w o 102 = true ∧ zobj w q 102 = true then some (npc, lv, r, rL w q (va_cpy (wL w o) (wL w q) (ix sp) (ix dp) (ix n))) else none) else none
    | _ => none
  | _ => none
def zgr (t : Nat) : Nat := match t with
  | 24 | 25 | 47 | 48 | 49 | 50 | 51 | 52 => 2
  | 27 | 28 | 29 | 30 | 31 | 32 | 33 | 34 | 35 | 36 | 37 | 38 | 40 => 3
  | _ => 1
/-- all of them -/
def zst' (M : Mth) (op : Op4) (npc : Nat) (lv : List (Nat × Value)) (st : List Value) (w : Wd) : Option Cfg := match zgr op.1 with
  | 2 => zs2 M op.1 op.2.1 op.2.2.1 npc lv st w
  | 3 => zs3 op.1 op.2.1 npc lv st w
  | _ => zs1 op.1 op.2.1 op.2.2.1 op.2.2.2 npc lv st w
/-- a method's end -/
def zfin (M : Mth) (op : Op4) (st : List Value) : Option (Option Value) := match op.1, st with
  | 41, [] => if mRet M = 0 then some none else none
  | 42, [.int x] => if mRet M = 1 ∨ mRet M = 2 ∧ (x = 0 ∨ x = 1) then some (some (.int x)) else none
  | 43, [.long x] => if mRet M = 3 then some (some (.long x)) else none
  | 44, [.ref x] => if mRet M = 4 then some (some (.ref x)) else none
  | 44, [.null] => if mRet M = 4 then some (some .null) else none
  | _, _ => none
/-- what a whole method does: method, arguments, world; answer, world -/
abbrev Evf : Type := Nat → List Value → Wd → Option Value → Wd → Prop
/-- one step, a call's included, by what the methods called do -/
def Zst (E : Evf) (M : Mth) (a b : Cfg) : Prop :=
  (∃ op npc, opAt (mCode M) a.1 = some (op, npc) ∧ (zst' M op npc a.2.1 a.2.2.1 a.2.2.2 = some b ∨
    (op.1 = 39 ∧ ∃ (as rest : List Value) (r : Option Value) (w1 : Wd), a.2.2.1 = as.reverse ++ rest ∧ E op.2.1 as a.2.2.2 r w1 ∧ (rest.map fun v => v.category).sum ≤ 8 ∧ b = (npc, a.2.1, r.toList ++ rest, w1)))) ∨
  (∃ lv' : List (Nat × Value), (∀ q ∈ lv', q ∈ a.2.1) ∧ b = (a.1, lv', a.2.2.1, a.2.2.2))
def Pth (E : Evf) (M : Mth) : Nat → Cfg → Cfg → Prop
  | 0, a, b => a = b
  | n + 1, a, b => ∃ c, Zst E M a c ∧ Pth E M n c b
/-- from here the method comes to its end -/
def Zfn (E : Evf) (M : Mth) (a : Cfg) (r : Option Value) (w' : Wd) : Prop :=
  ∃ (n : Nat) (b : Cfg) (op : Op4) (npc : Nat), Pth E M n a b ∧ opAt (mCode M) b.1 = some (op, npc) ∧ zfin M op b.2.2.1 = some r ∧ b.2.2.2 = w'
/-- the methods' doings at a depth of calls -/
def Ev : Nat → Evf
  | 0 => fun _ _ _ _ _ => False
  | d + 1 => fun n as w r w' => ∃ M ∈ zMs, mNum M = n ∧ ¬ n = 0 ∧ as.length = mArg M ∧ (as.map fun v => v.category).sum ≤ mLoc M ∧
      (zsta.contains n = true ∨ ∃ (o : Nat) (as' : List Value), as = .ref o :: as' ∧ zobj w o (mCls M) = true) ∧ Zfn (Ev d) M (0, lv_args 0 as, [], w) r w'
