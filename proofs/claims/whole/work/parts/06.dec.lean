/-! the small machine's ops are what the byte codes say -/
def cN : ClassFile.Cond → Nat
  | .eq => 0
  | .ne => 1
  | .lt => 2
  | .ge => 3
  | .gt => 4
  | .le => 5
def aN : ClassFile.ACond → Nat
  | .eq => 0
  | .ne => 1
def jOk (pc : Nat) (off : Int) (op : Op4) : Option Op4 := if 0 ≤ (pc : Int) + off then some op else none
def lkF (c i : Nat) : Option (Nat × Nat × Nat × Nat × Nat × Bool) := (zfl c).find? fun r => Nat.beq r.2.1 i && Nat.beq r.1 c
def lkS (c i : Nat) : Option (Nat × Nat × Nat × Nat × Bool) := zst.find? fun r => Nat.beq r.1 c && Nat.beq r.2.1 i
def lkM (c i : Nat) : Option (Nat × Nat × Nat × Nat × Bool) := (zml c).find? fun r => Nat.beq r.2.1 i && Nat.beq r.1 c
def lkC (c i : Nat) : Option (Nat × Nat × Nat × Nat) := zcls.find? fun r => Nat.beq r.1 c && Nat.beq r.2.1 i
def lkI (c i : Nat) : Option (Nat × Nat × Int32 × Nat) := zci.find? fun r => Nat.beq r.1 c && Nat.beq r.2.1 i
def lkJ (c i : Nat) : Option (Nat × Nat × Nat × Nat) := zcj.find? fun r => Nat.beq r.1 c && Nat.beq r.2.1 i
def lkW (c pc : Nat) : Option (Nat × Nat × Nat) := zswk.find? fun r => Nat.beq r.1 c && Nat.beq r.2.1 pc
def gOp (r : Nat × Nat × Nat × Nat × Nat × Bool) : Option Op4 :=
  if r.2.2.1 = 11 then some (47, r.2.2.2.1, 0, 0) else match zFk r.2.2.1 r.2.2.2.1 with
  | 0 => some (24, r.2.2.1, r.2.2.2.1, 0)
  | 1 => some (48, r.2.2.1, r.2.2.2.1, 0)
  | 2 => some (49, r.2.2.1, r.2.2.2.1, 0)
  | _ => none
def pOp (r : Nat × Nat × Nat × Nat × Nat × Bool) : Option Op4 :=
  if r.2.2.1 = 11 then none else match zFk r.2.2.1 r.2.2.2.1 with
  | 0 => if zTy r.2.2.1 r.2.2.2.1 = .boolean then some (52, r.2.2.1, r.2.2.2.1, 0) else some (25, r.2.2.1, r.2.2.2.1, 0)
  | 1 => some (50, r.2.2.1, r.2.2.2.1, 0)
  | 2 => some (51, r.2.2.1, r.2.2.2.1, 0)
  | _ => none
def mOp (s : Nat) (c i : Nat) : Option Op4 := (lkM c i).bind fun r =>
  if r.2.2.1 = 1000 then (if s = 1 then some (40, 0, 0, 0) else none) else
  if r.2.2.1 = 1001 then (if s = 2 then some (46, 0, 0, 0) else none) else
  if (s = 1 ∧ zsta.contains r.2.2.1 = true) ∨ (s = 2 ∧ zini.contains r.2.2.1 = true) ∨ (s = 0 ∧ zsta.contains r.2.2.1 = false ∧ zini.contains r.2.2.1 = false) then some (39, r.2.2.1, 0, 0) else none
def trI (c pc : Nat) : Instr → Option Op4
  | .iconst n => some (0, 0, 0, .ofInt n)
  | .bipush n => some (0, 0, 0, (Int8.ofInt n).toInt32)
  | .sipush n => some (0, 0, 0, (Int16.ofInt n).toInt32)
  | .ldc i => (lkI c i).map fun r => (0, 0, 0, r.2.2.1)
  | .ldc_w i => (lkI c i).map fun r => (0, 0, 0, r.2.2.1)
  | .lconst n => some (1, n.val, 0, 0)
  | .ldc2_w i => (lkJ c i).map fun r => (1, r.2.2.1, 0, 0)
  | .iload_n k => some (2, k.val, 0, 0)
  | .iload k => some (2, k, 0, 0)
  | .lload_n k => some (3, k.val, 0, 0)
  | .lload k => some (3, k, 0, 0)
  | .aload_n k => some (4, k.val, 0, 0)
  | .aload k => some (4, k, 0, 0)
  | .istore_n k => some (5, k.val, 0, 0)
  | .istore k => some (5, k, 0, 0)
  | .lstore_n k => some (6, k.val, 0, 0)
  | .lstore k => some (6, k, 0, 0)
  | .astore_n k => some (7, k.val, 0, 0)
  | .astore k => some (7, k, 0, 0)
  | .iinc k n => some (8, k, 0, .ofInt n)
  | .iadd => some (9, 0, 0, 0)
  | .isub => some (9, 1, 0, 0)
  | .imul => some (9, 2, 0, 0)
  | .idiv => some (9, 3, 0, 0)
  | .irem => some (9, 4, 0, 0)
  | .iand => some (9, 5, 0, 0)
  | .ior => some (9, 6, 0, 0)
  | .ixor => some (9, 7, 0, 0)
  | .ishl => some (9, 8, 0, 0)
  | .ishr => some (9, 9, 0, 0)
  | .iushr => some (9, 10, 0, 0)
  | .ladd => some (10, 0, 0, 0)
  | .lmul => some (10, 1, 0, 0)
  | .lor => some (10, 2, 0, 0)
  | .lcmp => some (11, 0, 0, 0)
  | .i2l => some (12, 0, 0, 0)
  | .l2i => some (13, 0, 0, 0)
  | .i2b => some (14, 0, 0, 0)
  | .dup => some (15, 0, 0, 0)
  | .pop => some (16, 0, 0, 0)
  | .dup2 => some (17, 0, 0, 0)
  | .ifCond k off => jOk pc off (18, cN k, mTgt pc off, 0)
  | .if_icmp k off => jOk pc off (19, cN k, mTgt pc off, 0)
  | .if_acmp k off => jOk pc off (20, aN k, mTgt pc off, 0)
  | .ifnull off => jOk pc off (21, 0, mTgt pc off, 0)
  | .ifnonnull off => jOk pc off (21, 1, mTgt pc off, 0)
  | .goto off => jOk pc off (22, 0, mTgt pc off, 0)
  | .tableswitch d lo hi offs => (lkW c pc).bind fun r =>
      if zsw r.2.2 = (lo, offs.toList.map (mTgt pc), mTgt pc d) ∧ (offs.toList.all fun x => decide (0 ≤ (pc : Int) + x)) = true ∧ 0 ≤ (pc : Int) + d ∧ hi + 1 = lo + (offs.size : Int) then some (23, r.2.2, 0, 0) else none
  | .getfield i => (lkF c i).bind gOp
  | .putfield i => (lkF c i).bind pOp
  | .getstatic i => (lkS c i).map fun r => (26, r.2.2.1, 0, 0)
  | .iaload => some (27, 0, 0, 0)
  | .laload => some (28, 0, 0, 0)
  | .baload => some (29, 0, 0, 0)
  | .aaload => some (30, 0, 0, 0)
  | .iastore => some (31, 0, 0, 0)
  | .lastore => some (32, 0, 0, 0)
  | .bastore => some (33, 0, 0, 0)
  | .aastore => some (34, 0, 0, 0)
  | .arraylength => some (35, 0, 0, 0)
  | .new i => (lkC c i).map fun r => (36, r.2.2.1, 0, 0)
  | .newarray .int => some (37, 101, 0, 0)
  | .newarray .long => some (37, 102, 0, 0)
  | .newarray .byte => some (37, 103, 0, 0)
  | .newarray .boolean => some (37, 104, 0, 0)
  | .anewarray i => (lkC c i).map fun r => (38, r.2.2.1, 0, 0)
  | .invokevirtual i => mOp 0 c i
  | .invokestatic i => mOp 1 c i
  | .invokespecial i => mOp 2 c i
  | .return_ => some (41, 0, 0, 0)
  | .ireturn => some (42, 0, 0, 0)
  | .lreturn => some (43, 0, 0, 0)
  | .areturn => some (44, 0, 0, 0)
  | .aconst_null => some (45, 0, 0, 0)
  | .ineg => some (53, 0, 0, 0)
  | .lshl => some (54, 0, 0, 0)
  | _ => none
def iLn : Instr → Nat → Bool
  | .tableswitch _ _ _ _, _ => true
  | .bipush _, n | .iload _, n | .lload _, n | .aload _, n | .istore _, n | .lstore _, n | .astore _, n | .ldc _, n | .newarray _, n => Nat.beq n 2
  | .sipush _, n | .ldc_w _, n | .ldc2_w _, n | .iinc _ _, n | .ifCond _ _, n | .if_icmp _ _, n | .if_acmp _ _, n | .ifnull _, n | .ifnonnull _, n | .goto _, n | .getfield _, n | .putfield _, n | .getstatic _, n | .new _, n | .anewarray _, n | .invokevirtual _, n | .invokestatic _, n | .invokespecial _, n => Nat.beq n 3
  | _, n => Nat.beq n 1
def zdec (n c : Nat) (r : Nat × Nat × Op4) : Bool := match decode (zby n) r.1 with
  | .ok (i, len) => iLn i len && Nat.beq (r.1 + len) r.2.1 && decide (trI c r.1 i = some r.2.2)
  | _ => false
def zchk (M : Mth) : Bool := (mCode M).all (zdec (mNum M) (mCls M))
