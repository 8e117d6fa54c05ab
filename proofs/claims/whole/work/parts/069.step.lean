/-! one step of the small machine is the real one's -/
section ZT
variable {dC : Nat → ClassId} {dI : Nat → Nat → Nat} {dA : Nat → ClassId} {B L : Nat} {xs : Nat → Int32} {sa : Nat → Nat}
variable {p : Program} {l : Launch} {e : Env} {R : Room} {s : State} {m : MethodId} {args : Array Value} {below : List Frame} {meth : Method} {c : Code} {Q : State → Prop}
/-- an activation of the method M: what stays -/
def zCtx (dC : Nat → ClassId) (dI : Nat → Nat → Nat) (dA : Nat → ClassId) (B L : Nat) (xs : Nat → Int32) (sa : Nat → Nat) (M : Mth) (p : Program) (s : State) (m : MethodId) (args : Array Value) (meth : Method) (c : Code) (R : Room) : Prop :=
  p.tables.exec = Jvm.exec ∧ c.code = zby (mNum M) ∧ c.maxLocals = mLoc M ∧ s.vm.findClass (zC (mCls M)) = some m.cls ∧ (∀ w ∈ zWS, w.before args s = true) ∧ (zini.contains (mNum M) = true → meth.name = "<init>") ∧
  va_K (dC, dI) zcl (ztys dA) s ∧ zStat B L xs sa s s.heap ∧ zNs s ∧ B ≤ s.heap.size ∧ 1 ≤ R.frames ∧ 32 ≤ R.locals ∧ mCls M < 15
/-- where the walk stands: the world, the heap, the locals -/
def zAt (dC : Nat → ClassId) (dI : Nat → Nat → Nat) (dA : Nat → ClassId) (B L : Nat) (xs : Nat → Int32) (sa : Nat → Nat) (M : Mth) (s : State) (w : Wd) (lv : List (Nat × Value)) (H : Heap) (locs : List Loc) (ls : Array Slot) : Prop :=
  zHp dC dI dA B sa w H ∧ va_S (zA B) s.heap H locs ∧ zScr L xs w ∧ lv_has ls (mLoc M) (zlv B sa lv)
/-- the claim at a place of the walk -/
abbrev zWk (dC : Nat → ClassId) (dI : Nat → Nat → Nat) (dA : Nat → ClassId) (B L : Nat) (xs : Nat → Int32) (sa : Nat → Nat) (M : Mth) (p : Program) (l : Launch) (e : Env) (R : Room) (s : State) (m : MethodId) (args : Array Value) (below : List Frame) (meth : Method) (c : Code) (cf sf : Nat → Nat) (Q : State → Prop) (a : Cfg) : Prop :=
  ∀ (H : Heap) (locs : List Loc) (ls : Array Slot), zAt dC dI dA B L xs sa M s a.2.2.2 a.2.1 H locs ls → W p l e R s m args below meth c H locs (cf (wn a.2.2.2)) (sf (wn a.2.2.2)) Q (F0 m a.1 ls (a.2.2.1.map (ztr B sa)))
theorem zmem_op {M : Mth} {pc npc : Nat} {op : Op4} (h : opAt (mCode M) pc = some (op, npc)) : (pc, npc, op) ∈ mCode M := by
  have key : ∀ l : List (Nat × Nat × Op4), opAt l pc = some (op, npc) → (pc, npc, op) ∈ l := by
    intro l
    induction l with
    | nil => intro h; cases h
    | cons r l ih =>
      intro h
      unfold opAt at h
      cases hb : Nat.beq r.1 pc with
      | true =>
        rw [hb] at h
        have h1 : (r.2.2, r.2.1) = (op, npc) := Option.some.inj h
        have h2 := Nat.eq_of_beq_eq_true hb
        obtain ⟨r1, r2, r3⟩ := r
        simp only [Prod.mk.injEq] at h1
        obtain ⟨e1, e2⟩ := h1
        dsimp only at h2
        subst e1; subst e2; subst h2
        exact List.mem_cons_self
      | false =>
        rw [hb] at h
        exact List.mem_cons_of_mem _ (ih h)
  exact key _ h
theorem zdec_op {M : Mth} (hz : zchk M = true) {pc npc : Nat} {op : Op4} (h : opAt (mCode M) pc = some (op, npc)) : ∃ i len, decode (zby (mNum M)) pc = .ok (i, len) ∧ iLn i len = true ∧ pc + len = npc ∧ trI (mCls M) pc i = some op := by
  have h1 := List.all_eq_true.mp hz _ (zmem_op h)
  unfold zdec at h1
  dsimp only at h1
  split at h1
  · rename_i i len hd
    rw [Bool.and_eq_true, Bool.and_eq_true, decide_eq_true_eq] at h1
    exact ⟨i, len, hd, h1.1.1, Nat.eq_of_beq_eq_true h1.1.2, h1.2⟩
  · cases h1
theorem zwd_b {w : Cond} (hts : ∀ w ∈ zWS, w.before args s = true) {q : Nat} (h : lw_tbl[q]? = some w) (hg : goodWord w = true) : w.before args s = true := hts w (zin_of q h hg)
theorem ztgt {pc : Nat} {off : Int} {op op' : Op4} (h : jOk pc off op = some op') : op = op' ∧ (pc : Int) + off = (mTgt pc off : Int) := by
  unfold jOk at h
  split at h
  · rename_i h1
    exact ⟨Option.some.inj h, by unfold mTgt; omega⟩
  · cases h
theorem zbin_w {a : Nat} {x y z : Int32} (h : zbin a x y = some z) : (a = 0 ∧ z = x + y) ∨ (a = 1 ∧ z = x - y) ∨ (a = 2 ∧ z = x * y) ∨ (a = 3 ∧ ¬ y = 0 ∧ z = x / y) ∨ (a = 4 ∧ ¬ y = 0 ∧ z = x - x / y * y) ∨ (a = 5 ∧ z = x &&& y) ∨ (a = 6 ∧ z = x ||| y) ∨ (a = 7 ∧ z = x ^^^ y) ∨ (a = 8 ∧ z = x <<< (y &&& 31)) ∨ (a = 9 ∧ z = x >>> (y &&& 31)) ∨ (a = 10 ∧ z = zush x y) := by
  unfold zbin at h
  split at h
  · simp at h; simp [h]
  · simp at h; simp [h]
  · simp at h; simp [h]
  · split at h
    · cases h
    · simp at h; simp_all
  · split at h
    · cases h
    · simp [zrem] at h; simp_all
  all_goals (simp at h; try simp [h])

/-- stores go to locals that are there -/
def zloc (M : Mth) : Bool := (mCode M).all fun r => match r.2.2.1 with
  | 5 | 7 | 8 => Nat.blt r.2.2.2.1 (mLoc M)
  | 6 => Nat.blt (r.2.2.2.1 + 1) (mLoc M)
  | _ => true
theorem zloc_1 {M : Mth} (h : zloc M = true) {pc npc t a b : Nat} {v : Int32} (ho : opAt (mCode M) pc = some ((t, a, b, v), npc)) (ht : t = 5 ∨ t = 7 ∨ t = 8) : a < mLoc M := by
  have h1 := List.all_eq_true.mp h _ (zmem_op ho)
  rcases ht with rfl | rfl | rfl <;> simpa [Nat.blt_eq] using h1
theorem zloc_2 {M : Mth} (h : zloc M = true) {pc npc a b : Nat} {v : Int32} (ho : opAt (mCode M) pc = some ((6, a, b, v), npc)) : a + 1 < mLoc M := by
  have h1 := List.all_eq_true.mp h _ (zmem_op ho)
  simpa [Nat.blt_eq] using h1
theorem lkF_ok {c i : Nat} {r} (h : lkF c i = some r) : r ∈ zfl c ∧ r.2.1 = i ∧ r.1 = c := by
  have h1 := List.find?_some h
  rw [Bool.and_eq_true] at h1
  exact ⟨List.mem_of_find?_eq_some h, Nat.eq_of_beq_eq_true h1.1, Nat.eq_of_beq_eq_true h1.2⟩
theorem lkM_ok {c i : Nat} {r} (h : lkM c i = some r) : r ∈ zml c ∧ r.2.1 = i ∧ r.1 = c := by
  have h1 := List.find?_some h
  rw [Bool.and_eq_true] at h1
  exact ⟨List.mem_of_find?_eq_some h, Nat.eq_of_beq_eq_true h1.1, Nat.eq_of_beq_eq_true h1.2⟩
theorem lkS_ok {c i : Nat} {r} (h : lkS c i = some r) : r ∈ zst ∧ r.2.1 = i ∧ r.1 = c := by
  have h1 := List.find?_some h
  rw [Bool.and_eq_true] at h1
  exact ⟨List.mem_of_find?_eq_some h, Nat.eq_of_beq_eq_true h1.2, Nat.eq_of_beq_eq_true h1.1⟩
theorem lkC_ok {c i : Nat} {r} (h : lkC c i = some r) : r ∈ zcls ∧ r.2.1 = i ∧ r.1 = c := by
  have h1 := List.find?_some h
  rw [Bool.and_eq_true] at h1
  exact ⟨List.mem_of_find?_eq_some h, Nat.eq_of_beq_eq_true h1.2, Nat.eq_of_beq_eq_true h1.1⟩
theorem lkI_ok {c i : Nat} {r} (h : lkI c i = some r) : r ∈ zci ∧ r.2.1 = i ∧ r.1 = c := by
  have h1 := List.find?_some h
  rw [Bool.and_eq_true] at h1
  exact ⟨List.mem_of_find?_eq_some h, Nat.eq_of_beq_eq_true h1.2, Nat.eq_of_beq_eq_true h1.1⟩
theorem lkJ_ok {c i : Nat} {r} (h : lkJ c i = some r) : r ∈ zcj ∧ r.2.1 = i ∧ r.1 = c := by
  have h1 := List.find?_some h
  rw [Bool.and_eq_true] at h1
  exact ⟨List.mem_of_find?_eq_some h, Nat.eq_of_beq_eq_true h1.2, Nat.eq_of_beq_eq_true h1.1⟩
theorem zml_1000 : ∀ c, c < 15 → ∀ r ∈ zml c, 1000 ≤ r.2.2.1 → r.2.2.2.2 = false := by decide +kernel
theorem zsw3_out {a : Nat} {x : Int32} {lo hi d : Int} {offs : Array Int} {pc : Nat} (h : zsw a = (lo, offs.toList.map (mTgt pc), mTgt pc d)) (h4 : hi + 1 = lo + (offs.size : Int)) (hx : x.toInt < lo ∨ hi < x.toInt) : zsw3 a x = mTgt pc d := by
  unfold zsw3
  rw [h]
  dsimp only
  rw [List.length_map, Array.length_toList, if_pos (by omega)]
theorem zsw3_in {a : Nat} {x : Int32} {lo hi d : Int} {offs : Array Int} {pc : Nat} (h : zsw a = (lo, offs.toList.map (mTgt pc), mTgt pc d)) (h4 : hi + 1 = lo + (offs.size : Int)) (h1 : ¬ x.toInt < lo) (h2 : ¬ hi < x.toInt) : ∃ off, offs[(x.toInt - lo).toNat]? = some off ∧ off ∈ offs.toList ∧ zsw3 a x = mTgt pc off := by
  have hl : (x.toInt - lo).toNat < offs.size := by omega
  refine ⟨offs[(x.toInt - lo).toNat], by simp [hl], by simp, ?_⟩
  unfold zsw3
  rw [h]
  dsimp only
  rw [List.length_map, Array.length_toList, if_neg (by omega), List.getD_eq_getElem?_getD, List.getElem?_map]
  simp [hl]
theorem zref_rf {v : Value} {o : Option Nat} (h : zref v = some o) : v = va_rf o := by
  cases v <;> simp [zref] at h <;> subst h <;> rfl
theorem zad_word {k : Nat} (h : 1010 ≤ k) : zad B sa k = sa (10 + (k - 1010)) := by
  unfold zad
  rw [if_neg (by omega), show k - 1000 = 10 + (k - 1010) by omega]
theorem zinj (hS : zStat B L xs sa s s.heap) {x y : Option Nat} (hx : zwk x = true) (hy : zwk y = true) : x.map (zad B sa) = y.map (zad B sa) ↔ x = y := by
  refine ⟨fun h => ?_, fun h => by rw [h]⟩
  cases x with
  | none => cases y with
    | none => rfl
    | some b => cases h
  | some a => cases y with
    | none => cases h
    | some b =>
      simp only [zwk, Bool.and_eq_true, decide_eq_true_eq] at hx hy
      have h1 : zad B sa a = zad B sa b := Option.some.inj h
      rw [zad_word hx.1, zad_word hy.1] at h1
      have h2 := hS.2.2.2.2.2.2.2 (a - 1010) (b - 1010) (by omega) (by omega) h1
      rw [show a = b by omega]
theorem zstep1 {M : Mth} (hM : zchk M = true) (hL : zloc M = true) (C : zCtx dC dI dA B L xs sa M p s m args meth c R) {cf sf : Nat → Nat} {a b : Cfg} {op : Op4} {npc : Nat} (ho : opAt (mCode M) a.1 = some (op, npc)) (hz : zst' M op npc a.2.1 a.2.2.1 a.2.2.2 = some b) (hg : zgr op.1 = 1)
    (k : zWk dC dI dA B L xs sa M p l e R s m args below meth c cf sf Q b) : zWk dC dI dA B L xs sa M p l e R s m args below meth c cf sf Q a := by
  obtain ⟨i, len, hd, hln, hn, hI⟩ := zdec_op hM ho
  obtain ⟨hx, hb, hml, hown, hts, hini, hK, hS, hN, hB, hfr, hlo, hc15⟩ := C
  obtain ⟨pc, lv, st, w⟩ := a
  intro H locs ls hA
  obtain ⟨hP, hSS, hScr, hl⟩ := hA
  dsimp only at hP hSS hScr hl ho hz hI hd hn ⊢
  subst hn
  cases i
  case iconst n =>
    have hln := Nat.eq_of_beq_eq_true hln; subst hln
    simp only [trI, Option.some.injEq] at hI; subst hI
    simp only [zst', zgr, zs1] at hz
    cases hz
    exact lv_iconst hx hb hd rfl (k H locs ls ⟨hP, hSS, hScr, hl⟩)
  case bipush n =>
    have hln := Nat.eq_of_beq_eq_true hln; subst hln
    simp only [trI, Option.some.injEq] at hI; subst hI
    simp only [zst', zgr, zs1] at hz
    cases hz
    exact lv_bipush hx hb hd rfl (k H locs ls ⟨hP, hSS, hScr, hl⟩)
  case sipush n =>
    have hln := Nat.eq_of_beq_eq_true hln; subst hln
    simp only [trI, Option.some.injEq] at hI; subst hI
    simp only [zst', zgr, zs1] at hz
    cases hz
    exact lv_sipush hx hb hd rfl (k H locs ls ⟨hP, hSS, hScr, hl⟩)
  case lconst n =>
    have hln := Nat.eq_of_beq_eq_true hln; subst hln
    simp only [trI, Option.some.injEq] at hI; subst hI
    simp only [zst', zgr, zs1] at hz
    cases hz
    exact lv_lconst hx hb hd ((by decide +kernel : ∀ n : Fin 2, Int64.ofNat (n : Nat) = zlc n.val) n) (k H locs ls ⟨hP, hSS, hScr, hl⟩)
  case ldc j =>
    have hln := Nat.eq_of_beq_eq_true hln; subst hln
    simp only [trI] at hI
    cases hr : lkI (mCls M) j with
    | none => rw [hr] at hI; cases hI
    | some r =>
      rw [hr] at hI
      cases hI
      obtain ⟨h1, h2, h3⟩ := lkI_ok hr
      have h4 := zci_ok r h1
      rw [h2, h3] at h4
      simp only [zst', zgr, zs1] at hz
      cases hz
      exact lv_ldc hx hb hown (zwd_b hts h4.1 h4.2) hd (k H locs ls ⟨hP, hSS, hScr, hl⟩)
  case ldc_w j =>
    have hln := Nat.eq_of_beq_eq_true hln; subst hln
    simp only [trI] at hI
    cases hr : lkI (mCls M) j with
    | none => rw [hr] at hI; cases hI
    | some r =>
      rw [hr] at hI
      cases hI
      obtain ⟨h1, h2, h3⟩ := lkI_ok hr
      have h4 := zci_ok r h1
      rw [h2, h3] at h4
      simp only [zst', zgr, zs1] at hz
      cases hz
      exact lv_ldcw hx hb hown (zwd_b hts h4.1 h4.2) hd (k H locs ls ⟨hP, hSS, hScr, hl⟩)
  case ldc2_w j =>
    have hln := Nat.eq_of_beq_eq_true hln; subst hln
    simp only [trI] at hI
    cases hr : lkJ (mCls M) j with
    | none => rw [hr] at hI; cases hI
    | some r =>
      rw [hr] at hI
      cases hI
      obtain ⟨h1, h2, h3⟩ := lkJ_ok hr
      have h4 := zcj_ok r h1
      rw [h2, h3] at h4
      simp only [zst', zgr, zs1] at hz
      cases hz
      exact lv_ldc2 hx hb hown (zwd_b hts h4.1 h4.2) hd (k H locs ls ⟨hP, hSS, hScr, hl⟩)
  case iload_n j =>
    have hln := Nat.eq_of_beq_eq_true hln; subst hln
    simp only [trI, Option.some.injEq] at hI; subst hI
    simp only [zst', zgr, zs1] at hz
    split at hz
    · rename_i x hx1
      cases hz
      exact lv_iload_n hx hb hd rfl (zlv_at hl hx1) (k H locs ls ⟨hP, hSS, hScr, hl⟩)
    · cases hz
  case iload j =>
    have hln := Nat.eq_of_beq_eq_true hln; subst hln
    simp only [trI, Option.some.injEq] at hI; subst hI
    simp only [zst', zgr, zs1] at hz
    split at hz
    · rename_i x hx1
      cases hz
      exact lv_iload hx hb hd (zlv_at hl hx1) (k H locs ls ⟨hP, hSS, hScr, hl⟩)
    · cases hz
  case lload_n j =>
    have hln := Nat.eq_of_beq_eq_true hln; subst hln
    simp only [trI, Option.some.injEq] at hI; subst hI
    simp only [zst', zgr, zs1] at hz
    split at hz
    · rename_i x hx1
      cases hz
      exact lv_lload_n hx hb hd rfl (zlv_at hl hx1) (k H locs ls ⟨hP, hSS, hScr, hl⟩)
    · cases hz
  case lload j =>
    have hln := Nat.eq_of_beq_eq_true hln; subst hln
    simp only [trI, Option.some.injEq] at hI; subst hI
    simp only [zst', zgr, zs1] at hz
    split at hz
    · rename_i x hx1
      cases hz
      exact lv_lload hx hb hd (zlv_at hl hx1) (k H locs ls ⟨hP, hSS, hScr, hl⟩)
    · cases hz
  case aload_n j =>
    have hln := Nat.eq_of_beq_eq_true hln; subst hln
    simp only [trI, Option.some.injEq] at hI; subst hI
    simp only [zst', zgr, zs1] at hz
    split at hz
    · rename_i x hx1
      cases hz
      exact lv_aload_n hx hb hd rfl (zlv_at hl hx1) (k H locs ls ⟨hP, hSS, hScr, hl⟩)
    · rename_i hx1
      cases hz
      exact lv_aload_nN hx hb hd rfl (zlv_at hl hx1) (k H locs ls ⟨hP, hSS, hScr, hl⟩)
    · cases hz
  case aload j =>
    have hln := Nat.eq_of_beq_eq_true hln; subst hln
    simp only [trI, Option.some.injEq] at hI; subst hI
    simp only [zst', zgr, zs1] at hz
    split at hz
    · rename_i x hx1
      cases hz
      exact lv_aload hx hb hd (zlv_at hl hx1) (k H locs ls ⟨hP, hSS, hScr, hl⟩)
    · rename_i hx1
      cases hz
      exact lv_aloadN hx hb hd (zlv_at hl hx1) (k H locs ls ⟨hP, hSS, hScr, hl⟩)
    · cases hz
  case istore_n j =>
    have hln := Nat.eq_of_beq_eq_true hln; subst hln
    simp only [trI, Option.some.injEq] at hI; subst hI
    have hj := zloc_1 hL ho (by simp)
    simp only [zst', zgr, zs1] at hz
    split at hz
    · rename_i x r
      cases hz
      exact lv_istore_n hx hb hd rfl hl hj (zlv_lst1 lv _ (.int x)) (fun ls' h' => k H locs ls' ⟨hP, hSS, hScr, h'⟩)
    · cases hz
  case istore j =>
    have hln := Nat.eq_of_beq_eq_true hln; subst hln
    simp only [trI, Option.some.injEq] at hI; subst hI
    have hj := zloc_1 hL ho (by simp)
    simp only [zst', zgr, zs1] at hz
    split at hz
    · rename_i x r
      cases hz
      exact lv_istore hx hb hd hl hj (zlv_lst1 lv _ (.int x)) (fun ls' h' => k H locs ls' ⟨hP, hSS, hScr, h'⟩)
    · cases hz
  case lstore_n j =>
    have hln := Nat.eq_of_beq_eq_true hln; subst hln
    simp only [trI, Option.some.injEq] at hI; subst hI
    have hj := zloc_2 hL ho
    simp only [zst', zgr, zs1] at hz
    split at hz
    · rename_i x r
      cases hz
      exact lv_lstore_n hx hb hd rfl hl hj (zlv_lst2 lv _ (.long x)) (fun ls' h' => k H locs ls' ⟨hP, hSS, hScr, h'⟩)
    · cases hz
  case lstore j =>
    have hln := Nat.eq_of_beq_eq_true hln; subst hln
    simp only [trI, Option.some.injEq] at hI; subst hI
    have hj := zloc_2 hL ho
    simp only [zst', zgr, zs1] at hz
    split at hz
    · rename_i x r
      cases hz
      exact lv_lstore hx hb hd hl hj (zlv_lst2 lv _ (.long x)) (fun ls' h' => k H locs ls' ⟨hP, hSS, hScr, h'⟩)
    · cases hz
  case astore_n j =>
    have hln := Nat.eq_of_beq_eq_true hln; subst hln
    simp only [trI, Option.some.injEq] at hI; subst hI
    have hj := zloc_1 hL ho (by simp)
    simp only [zst', zgr, zs1] at hz
    split at hz
    · rename_i x r
      cases hz
      exact lv_astore_n hx hb hd rfl hl hj (zlv_lst1 lv _ (.ref x)) (fun ls' h' => k H locs ls' ⟨hP, hSS, hScr, h'⟩)
    · rename_i r
      cases hz
      exact lv_astore_nN hx hb hd rfl hl hj (zlv_lst1 lv _ .null) (fun ls' h' => k H locs ls' ⟨hP, hSS, hScr, h'⟩)
    · cases hz
  case astore j =>
    have hln := Nat.eq_of_beq_eq_true hln; subst hln
    simp only [trI, Option.some.injEq] at hI; subst hI
    have hj := zloc_1 hL ho (by simp)
    simp only [zst', zgr, zs1] at hz
    split at hz
    · rename_i x r
      cases hz
      exact lv_astore hx hb hd hl hj (zlv_lst1 lv _ (.ref x)) (fun ls' h' => k H locs ls' ⟨hP, hSS, hScr, h'⟩)
    · rename_i r
      cases hz
      exact lv_astoreN hx hb hd hl hj (zlv_lst1 lv _ .null) (fun ls' h' => k H locs ls' ⟨hP, hSS, hScr, h'⟩)
    · cases hz
  case iinc j n =>
    have hln := Nat.eq_of_beq_eq_true hln; subst hln
    simp only [trI, Option.some.injEq] at hI; subst hI
    have hj := zloc_1 hL ho (by simp)
    simp only [zst', zgr, zs1] at hz
    split at hz
    · rename_i x hx1
      cases hz
      obtain ⟨q, hq⟩ := zlv_mem (B := B) (sa := sa) hx1
      exact lv_iinc hx hb hd hl hq rfl hj (zlv_lst1 lv _ (.int (x + Int32.ofInt n))) (fun ls' h' => k H locs ls' ⟨hP, hSS, hScr, h'⟩)
    · cases hz
  case iadd =>
    have hln := Nat.eq_of_beq_eq_true hln; subst hln
    simp only [trI, Option.some.injEq] at hI; subst hI
    simp only [zst', zgr, zs1, zbin, Option.map_some] at hz
    split at hz
    · rename_i y x r
      cases hz
      exact lv_iadd hx hb hd (k H locs ls ⟨hP, hSS, hScr, hl⟩)
    · cases hz
  case isub =>
    have hln := Nat.eq_of_beq_eq_true hln; subst hln
    simp only [trI, Option.some.injEq] at hI; subst hI
    simp only [zst', zgr, zs1, zbin, Option.map_some] at hz
    split at hz
    · rename_i y x r
      cases hz
      exact lv_isub hx hb hd (k H locs ls ⟨hP, hSS, hScr, hl⟩)
    · cases hz
  case imul =>
    have hln := Nat.eq_of_beq_eq_true hln; subst hln
    simp only [trI, Option.some.injEq] at hI; subst hI
    simp only [zst', zgr, zs1, zbin, Option.map_some] at hz
    split at hz
    · rename_i y x r
      cases hz
      exact lv_imul hx hb hd (k H locs ls ⟨hP, hSS, hScr, hl⟩)
    · cases hz
  case iand =>
    have hln := Nat.eq_of_beq_eq_true hln; subst hln
    simp only [trI, Option.some.injEq] at hI; subst hI
    simp only [zst', zgr, zs1, zbin, Option.map_some] at hz
    split at hz
    · rename_i y x r
      cases hz
      exact lv_iand hx hb hd (k H locs ls ⟨hP, hSS, hScr, hl⟩)
    · cases hz
  case ior =>
    have hln := Nat.eq_of_beq_eq_true hln; subst hln
    simp only [trI, Option.some.injEq] at hI; subst hI
    simp only [zst', zgr, zs1, zbin, Option.map_some] at hz
    split at hz
    · rename_i y x r
      cases hz
      exact lv_ior hx hb hd (k H locs ls ⟨hP, hSS, hScr, hl⟩)
    · cases hz
  case ixor =>
    have hln := Nat.eq_of_beq_eq_true hln; subst hln
    simp only [trI, Option.some.injEq] at hI; subst hI
    simp only [zst', zgr, zs1, zbin, Option.map_some] at hz
    split at hz
    · rename_i y x r
      cases hz
      exact lv_ixor hx hb hd (k H locs ls ⟨hP, hSS, hScr, hl⟩)
    · cases hz
  case ishl =>
    have hln := Nat.eq_of_beq_eq_true hln; subst hln
    simp only [trI, Option.some.injEq] at hI; subst hI
    simp only [zst', zgr, zs1, zbin, Option.map_some] at hz
    split at hz
    · rename_i y x r
      cases hz
      exact lv_ishl hx hb hd (k H locs ls ⟨hP, hSS, hScr, hl⟩)
    · cases hz
  case ishr =>
    have hln := Nat.eq_of_beq_eq_true hln; subst hln
    simp only [trI, Option.some.injEq] at hI; subst hI
    simp only [zst', zgr, zs1, zbin, Option.map_some] at hz
    split at hz
    · rename_i y x r
      cases hz
      exact lv_ishr hx hb hd (k H locs ls ⟨hP, hSS, hScr, hl⟩)
    · cases hz
  case iushr =>
    have hln := Nat.eq_of_beq_eq_true hln; subst hln
    simp only [trI, Option.some.injEq] at hI; subst hI
    simp only [zst', zgr, zs1, zbin, Option.map_some] at hz
    split at hz
    · rename_i y x r
      cases hz
      exact lv_iushr hx hb hd rfl (k H locs ls ⟨hP, hSS, hScr, hl⟩)
    · cases hz
  case idiv =>
    have hln := Nat.eq_of_beq_eq_true hln; subst hln
    simp only [trI, Option.some.injEq] at hI; subst hI
    simp only [zst', zgr, zs1, zbin] at hz
    split at hz
    · rename_i y x r
      by_cases h0 : y = 0
      · rw [if_pos h0] at hz; cases hz
      · rw [if_neg h0] at hz
        cases hz
        exact lv_idiv hx hb hd h0 (k H locs ls ⟨hP, hSS, hScr, hl⟩)
    · cases hz
  case irem =>
    have hln := Nat.eq_of_beq_eq_true hln; subst hln
    simp only [trI, Option.some.injEq] at hI; subst hI
    simp only [zst', zgr, zs1, zbin] at hz
    split at hz
    · rename_i y x r
      by_cases h0 : y = 0
      · rw [if_pos h0] at hz; cases hz
      · rw [if_neg h0] at hz
        cases hz
        exact lv_irem hx hb hd h0 (k H locs ls ⟨hP, hSS, hScr, hl⟩)
    · cases hz
  case ladd =>
    have hln := Nat.eq_of_beq_eq_true hln; subst hln
    simp only [trI, Option.some.injEq] at hI; subst hI
    simp only [zst', zgr, zs1, zlbin, Option.map_some] at hz
    split at hz
    · rename_i y x r
      cases hz
      exact lv_ladd hx hb hd (k H locs ls ⟨hP, hSS, hScr, hl⟩)
    · cases hz
  case lmul =>
    have hln := Nat.eq_of_beq_eq_true hln; subst hln
    simp only [trI, Option.some.injEq] at hI; subst hI
    simp only [zst', zgr, zs1, zlbin, Option.map_some] at hz
    split at hz
    · rename_i y x r
      cases hz
      exact lv_lmul hx hb hd (k H locs ls ⟨hP, hSS, hScr, hl⟩)
    · cases hz
  case lor =>
    have hln := Nat.eq_of_beq_eq_true hln; subst hln
    simp only [trI, Option.some.injEq] at hI; subst hI
    simp only [zst', zgr, zs1, zlbin, Option.map_some] at hz
    split at hz
    · rename_i y x r
      cases hz
      exact lv_lor hx hb hd (k H locs ls ⟨hP, hSS, hScr, hl⟩)
    · cases hz
  case lcmp =>
    have hln := Nat.eq_of_beq_eq_true hln; subst hln
    simp only [trI, Option.some.injEq] at hI; subst hI
    simp only [zst', zgr, zs1] at hz
    split at hz
    · rename_i y x r
      cases hz
      exact W.lcmp hx hb hd (k H locs ls ⟨hP, hSS, hScr, hl⟩)
    · cases hz
  case i2l =>
    have hln := Nat.eq_of_beq_eq_true hln; subst hln
    simp only [trI, Option.some.injEq] at hI; subst hI
    simp only [zst', zgr, zs1] at hz
    split at hz
    · rename_i x r
      cases hz
      exact lv_i2l hx hb hd rfl (k H locs ls ⟨hP, hSS, hScr, hl⟩)
    · cases hz
  case l2i =>
    have hln := Nat.eq_of_beq_eq_true hln; subst hln
    simp only [trI, Option.some.injEq] at hI; subst hI
    simp only [zst', zgr, zs1] at hz
    split at hz
    · rename_i x r
      cases hz
      exact lv_l2i hx hb hd rfl (k H locs ls ⟨hP, hSS, hScr, hl⟩)
    · cases hz
  case i2b =>
    have hln := Nat.eq_of_beq_eq_true hln; subst hln
    simp only [trI, Option.some.injEq] at hI; subst hI
    simp only [zst', zgr, zs1] at hz
    split at hz
    · rename_i x r
      cases hz
      exact lv_i2b hx hb hd rfl (k H locs ls ⟨hP, hSS, hScr, hl⟩)
    · cases hz
  case ineg =>
    have hln := Nat.eq_of_beq_eq_true hln; subst hln
    simp only [trI, Option.some.injEq] at hI; subst hI
    simp only [zst', zgr, zs1] at hz
    split at hz
    · rename_i x r
      cases hz
      exact lv_ineg hx hb hd (k H locs ls ⟨hP, hSS, hScr, hl⟩)
    · cases hz
  case lshl =>
    have hln := Nat.eq_of_beq_eq_true hln; subst hln
    simp only [trI, Option.some.injEq] at hI; subst hI
    simp only [zst', zgr, zs1] at hz
    split at hz
    · rename_i y x r
      cases hz
      exact lv_lshl hx hb hd rfl (k H locs ls ⟨hP, hSS, hScr, hl⟩)
    · cases hz
  case dup =>
    have hln := Nat.eq_of_beq_eq_true hln; subst hln
    simp only [trI, Option.some.injEq] at hI; subst hI
    simp only [zst', zgr, zs1] at hz
    split at hz
    · rename_i x r
      split at hz
      · rename_i h1
        cases hz
        exact lv_dup hx hb hd (by rw [ztr_cat]; exact h1) (k H locs ls ⟨hP, hSS, hScr, hl⟩)
      · cases hz
    · cases hz
  case pop =>
    have hln := Nat.eq_of_beq_eq_true hln; subst hln
    simp only [trI, Option.some.injEq] at hI; subst hI
    simp only [zst', zgr, zs1] at hz
    split at hz
    · rename_i x r
      split at hz
      · rename_i h1
        cases hz
        exact lv_pop hx hb hd (by rw [ztr_cat]; exact h1) (k H locs ls ⟨hP, hSS, hScr, hl⟩)
      · cases hz
    · cases hz
  case dup2 =>
    have hln := Nat.eq_of_beq_eq_true hln; subst hln
    simp only [trI, Option.some.injEq] at hI; subst hI
    simp only [zst', zgr, zs1] at hz
    split at hz
    · rename_i x y r
      split at hz
      · rename_i h1
        cases hz
        exact lv_dup2_11 hx hb hd (by rw [ztr_cat]; exact h1.1) (by rw [ztr_cat]; exact h1.2) (k H locs ls ⟨hP, hSS, hScr, hl⟩)
      · cases hz
    · cases hz
  case ifCond kd off =>
    have hln := Nat.eq_of_beq_eq_true hln; subst hln
    simp only [trI] at hI
    obtain ⟨hI, htg⟩ := ztgt hI; subst hI
    simp only [zst', zgr, zs1] at hz
    split at hz
    · rename_i x r
      cases hz
      have k' := k H locs ls ⟨hP, hSS, hScr, hl⟩
      cases kd
      · exact lv_if_eq hx hb hd htg (fun h => by rw [show zcnd (cN ClassFile.Cond.eq) x 0 = true from by simp [zcnd, cN, h]] at k'; exact k') (fun h => by rw [show zcnd (cN ClassFile.Cond.eq) x 0 = false from by simpa [zcnd, cN] using h] at k'; exact k')
      · exact lv_if_ne hx hb hd htg (fun h => by rw [show zcnd (cN ClassFile.Cond.ne) x 0 = true from by simp [zcnd, cN, h]] at k'; exact k') (fun h => by rw [show zcnd (cN ClassFile.Cond.ne) x 0 = false from by simpa [zcnd, cN] using h] at k'; exact k')
      · exact lv_if_lt hx hb hd htg (fun h => by rw [show zcnd (cN ClassFile.Cond.lt) x 0 = true from by simp [zcnd, cN, h]] at k'; exact k') (fun h => by rw [show zcnd (cN ClassFile.Cond.lt) x 0 = false from by simpa [zcnd, cN] using h] at k'; exact k')
      · exact lv_if_ge hx hb hd htg (fun h => by rw [show zcnd (cN ClassFile.Cond.ge) x 0 = true from by simp [zcnd, cN, h]] at k'; exact k') (fun h => by rw [show zcnd (cN ClassFile.Cond.ge) x 0 = false from by simpa [zcnd, cN] using h] at k'; exact k')
      · exact lv_if_gt hx hb hd htg (fun h => by rw [show zcnd (cN ClassFile.Cond.gt) x 0 = true from by simp [zcnd, cN, h]] at k'; exact k') (fun h => by rw [show zcnd (cN ClassFile.Cond.gt) x 0 = false from by simpa [zcnd, cN] using h] at k'; exact k')
      · exact lv_if_le hx hb hd htg (fun h => by rw [show zcnd (cN ClassFile.Cond.le) x 0 = true from by simp [zcnd, cN, h]] at k'; exact k') (fun h => by rw [show zcnd (cN ClassFile.Cond.le) x 0 = false from by simpa [zcnd, cN] using h] at k'; exact k')
    · cases hz
  case if_icmp kd off =>
    have hln := Nat.eq_of_beq_eq_true hln; subst hln
    simp only [trI] at hI
    obtain ⟨hI, htg⟩ := ztgt hI; subst hI
    simp only [zst', zgr, zs1] at hz
    split at hz
    · rename_i y x r
      cases hz
      have k' := k H locs ls ⟨hP, hSS, hScr, hl⟩
      cases kd
      · exact lv_icmp_eq hx hb hd htg (fun h => by rw [show zcnd (cN ClassFile.Cond.eq) x y = true from by simp [zcnd, cN, h]] at k'; exact k') (fun h => by rw [show zcnd (cN ClassFile.Cond.eq) x y = false from by simpa [zcnd, cN] using h] at k'; exact k')
      · exact lv_icmp_ne hx hb hd htg (fun h => by rw [show zcnd (cN ClassFile.Cond.ne) x y = true from by simp [zcnd, cN, h]] at k'; exact k') (fun h => by rw [show zcnd (cN ClassFile.Cond.ne) x y = false from by simpa [zcnd, cN] using h] at k'; exact k')
      · exact lv_icmp_lt hx hb hd htg (fun h => by rw [show zcnd (cN ClassFile.Cond.lt) x y = true from by simp [zcnd, cN, h]] at k'; exact k') (fun h => by rw [show zcnd (cN ClassFile.Cond.lt) x y = false from by simpa [zcnd, cN] using h] at k'; exact k')
      · exact lv_icmp_ge hx hb hd htg (fun h => by rw [show zcnd (cN ClassFile.Cond.ge) x y = true from by simp [zcnd, cN, h]] at k'; exact k') (fun h => by rw [show zcnd (cN ClassFile.Cond.ge) x y = false from by simpa [zcnd, cN] using h] at k'; exact k')
      · exact lv_icmp_gt hx hb hd htg (fun h => by rw [show zcnd (cN ClassFile.Cond.gt) x y = true from by simp [zcnd, cN, h]] at k'; exact k') (fun h => by rw [show zcnd (cN ClassFile.Cond.gt) x y = false from by simpa [zcnd, cN] using h] at k'; exact k')
      · exact lv_icmp_le hx hb hd htg (fun h => by rw [show zcnd (cN ClassFile.Cond.le) x y = true from by simp [zcnd, cN, h]] at k'; exact k') (fun h => by rw [show zcnd (cN ClassFile.Cond.le) x y = false from by simpa [zcnd, cN] using h] at k'; exact k')
    · cases hz
  case if_acmp kd off =>
    have hln := Nat.eq_of_beq_eq_true hln; subst hln
    simp only [trI] at hI
    obtain ⟨hI, htg⟩ := ztgt hI; subst hI
    simp only [zst', zgr, zs1] at hz
    split at hz
    · rename_i vy vx r
      split at hz
      · rename_i x y ex ey
        split at hz
        · rename_i hw
          cases hz
          have k' := k H locs ls ⟨hP, hSS, hScr, hl⟩
          have e1 := zref_rf ex
          have e2 := zref_rf ey
          subst e1; subst e2
          have hi := zinj hS hw.1 hw.2
          show W p l e R s m args below meth c H locs _ _ Q (F0 m pc ls (ztr B sa (va_rf y) :: ztr B sa (va_rf x) :: r.map (ztr B sa)))
          rw [ztr_rf, ztr_rf]
          cases kd
          · exact lv_acmp_eq hx hb hd htg (fun h => by rw [show (Nat.beq (aN .eq) 0 == decide (x = y)) = true from by simp [aN, hi.mp h]] at k'; exact k') (fun h => by rw [show (Nat.beq (aN .eq) 0 == decide (x = y)) = false from by simpa [aN] using fun q => h (hi.mpr q)] at k'; exact k')
          · exact lv_acmp_ne hx hb hd htg (fun h => by rw [show (Nat.beq (aN .ne) 0 == decide (x = y)) = true from by rw [show Nat.beq (aN .ne) 0 = false from rfl, decide_eq_false (fun q => h (hi.mpr q))]; rfl] at k'; exact k') (fun h => by rw [show (Nat.beq (aN .ne) 0 == decide (x = y)) = false from by rw [show Nat.beq (aN .ne) 0 = false from rfl, decide_eq_true (hi.mp h)]; rfl] at k'; exact k')
        · cases hz
      · cases hz
    · cases hz
  case ifnull off =>
    have hln := Nat.eq_of_beq_eq_true hln; subst hln
    simp only [trI] at hI
    obtain ⟨hI, htg⟩ := ztgt hI; subst hI
    simp only [zst', zgr, zs1] at hz
    split at hz
    · cases hz
      exact lv_ifnullN hx hb hd htg (k H locs ls ⟨hP, hSS, hScr, hl⟩)
    · cases hz
      exact lv_ifnull hx hb hd (k H locs ls ⟨hP, hSS, hScr, hl⟩)
    · cases hz
  case ifnonnull off =>
    have hln := Nat.eq_of_beq_eq_true hln; subst hln
    simp only [trI] at hI
    obtain ⟨hI, htg⟩ := ztgt hI; subst hI
    simp only [zst', zgr, zs1] at hz
    split at hz
    · cases hz
      exact lv_ifnonnullN hx hb hd (k H locs ls ⟨hP, hSS, hScr, hl⟩)
    · cases hz
      exact lv_ifnonnull hx hb hd htg (k H locs ls ⟨hP, hSS, hScr, hl⟩)
    · cases hz
  case goto off =>
    have hln := Nat.eq_of_beq_eq_true hln; subst hln
    simp only [trI] at hI
    obtain ⟨hI, htg⟩ := ztgt hI; subst hI
    simp only [zst', zgr, zs1] at hz
    cases hz
    exact lv_goto hx hb hd htg (k H locs ls ⟨hP, hSS, hScr, hl⟩)
  case aconst_null =>
    have hln := Nat.eq_of_beq_eq_true hln; subst hln
    simp only [trI, Option.some.injEq] at hI; subst hI
    simp only [zst', zgr, zs1] at hz
    cases hz
    exact lv_null hx hb hd (k H locs ls ⟨hP, hSS, hScr, hl⟩)
  case tableswitch d lo hi offs =>
    simp only [trI] at hI
    cases hr : lkW (mCls M) pc with
    | none => rw [hr] at hI; cases hI
    | some r =>
      rw [hr] at hI
      simp only [Option.bind_some] at hI
      split at hI
      · rename_i hc
        cases hI
        obtain ⟨h1, h2, h3, h4⟩ := hc
        simp only [zst', zgr, zs1] at hz
        split at hz
        · rename_i x r'
          cases hz
          have k' := k H locs ls ⟨hP, hSS, hScr, hl⟩
          by_cases hx1 : x.toInt < lo
          · rw [zsw3_out (x := x) h1 h4 (Or.inl hx1)] at k'
            exact lv_tableOut hx hb hd (Or.inl hx1) (by unfold mTgt; omega) k'
          · by_cases hx2 : hi < x.toInt
            · rw [zsw3_out (x := x) h1 h4 (Or.inr hx2)] at k'
              exact lv_tableOut hx hb hd (Or.inr hx2) (by unfold mTgt; omega) k'
            · obtain ⟨off, g1, g2, g3⟩ := zsw3_in (x := x) h1 h4 hx1 hx2
              rw [g3] at k'
              have h5 := List.all_eq_true.mp h2 off g2
              rw [decide_eq_true_eq] at h5
              exact lv_tableIn hx hb hd hx1 hx2 g1 (by unfold mTgt; omega) k'
        · cases hz
      · cases hI
  case getstatic j =>
    have hln := Nat.eq_of_beq_eq_true hln; subst hln
    simp only [trI] at hI
    cases hr : lkS (mCls M) j with
    | none => rw [hr] at hI; cases hI
    | some r =>
      rw [hr] at hI
      cases hI
      obtain ⟨h1, h2, h3⟩ := lkS_ok hr
      obtain ⟨h4, h5, h6⟩ := zst_ok r h1
      simp only [zst', zgr, zs1] at hz
      cases hz
      have k' := k H locs ls ⟨hP, hSS, hScr, hl⟩
      have hZ : va_Z (zsf r.2.2.1).1 (zsf r.2.2.1).2.1 (zsf r.2.2.1).2.2 (ztr B sa (.ref r.2.2.1)) (zA B) s s.heap := by
        rcases h6 with h6 | h6
        · rw [h6]; exact hS.1
        · have h7 := hS.2.2.1 (r.2.2.1 - 1010) (by omega)
          have h8 : zsf r.2.2.1 = ("RugReader$Word", zwnm (r.2.2.1 - 1010), "LRugReader$Word;") := by unfold zsf; rw [if_neg (by omega)]
          rw [h8]
          dsimp only
          show va_Z _ _ _ (.ref (zad B sa r.2.2.1)) _ _ _
          rw [zad_word h6.1]
          exact h7
      unfold zsw1 at h4 h5
      rw [h2, h3] at h4 h5
      cases hn : r.2.2.2.2 with
      | false =>
        rw [hn] at h4 h5
        exact va_gets hx hb hZ hSS hown (zwd_b hts h4 (h5 rfl)) (fun _ h => h) hd k'
      | true =>
        have h9 := hN.2.1 _ (zst_n r h1 hn)
        unfold zsw1 at h9
        rw [h2, h3, hn] at h9
        exact va_getsN hx hb hZ hSS hown (va_Nw.use rfl h9) (fun _ h => h) hd k'
  case invokespecial j =>
    have hln := Nat.eq_of_beq_eq_true hln; subst hln
    simp only [trI, mOp] at hI
    cases hr : lkM (mCls M) j with
    | none => rw [hr] at hI; cases hI
    | some r =>
      rw [hr] at hI
      simp only [Option.bind_some] at hI
      split at hI
      · split at hI <;> simp_all
      · split at hI
        · rename_i hne h1001
          split at hI
          · cases hI
            obtain ⟨h1, h2, h3⟩ := lkM_ok hr
            obtain ⟨h4, h5, h6⟩ := zml_ok _ hc15 r h1
            have hn := zml_1000 _ hc15 r h1 (by omega)
            have h5 := h5 hn
            have h7 : zmw r = .methodLink (zC (mCls M)) j Lib.objectInit := by
              unfold zmw zyy
              rw [hn, if_neg (by decide), h1001, h2, h3]; rfl
            rw [h7] at h4 h5
            simp only [zst', zgr, zs1] at hz
            split at hz
            · rename_i o r'
              split at hz
              · rename_i hsum
                cases hz
                refine W.objInit hx hb hown (zwd_b hts h4 h5) (zwd_b hts zobw.1.1 zobw.1.2) (zwd_b hts zobw.2.1 zobw.2.2) rfl (hl.1.trans hml.symm) rfl hd hfr ?_ (k H locs ls ⟨hP, hSS, hScr, hl⟩)
                show 2 * 0 + ((r'.map (ztr B sa)).map fun v => v.category).sum + 12 ≤ R.locals
                rw [ztr_sum]
                omega
              · cases hz
            · cases hz
          · rename_i h; exact absurd trivial h
        · split at hI
          · cases hI
            simp only [zst', zgr, zs1] at hz
            cases hz
          · cases hI
  case invokevirtual j =>
    simp only [trI, mOp] at hI
    cases hr : lkM (mCls M) j with
    | none => rw [hr] at hI; cases hI
    | some r =>
      rw [hr] at hI
      simp only [Option.bind_some] at hI
      split at hI
      · split at hI
        · rename_i h; exact absurd h (by decide)
        · cases hI
      · split at hI
        · split at hI
          · rename_i h; exact absurd h (by decide)
          · cases hI
        · split at hI
          · cases hI
            simp only [zst', zgr, zs1] at hz
            cases hz
          · cases hI
  case invokestatic j =>
    simp only [trI, mOp] at hI
    cases hr : lkM (mCls M) j with
    | none => rw [hr] at hI; cases hI
    | some r =>
      rw [hr] at hI
      simp only [Option.bind_some] at hI
      split at hI
      · split at hI
        · cases hI
          simp [zgr] at hg
        · cases hI
      · split at hI
        · split at hI
          · rename_i h; exact absurd h (by decide)
          · cases hI
        · split at hI
          · cases hI
            simp only [zst', zgr, zs1] at hz
            cases hz
          · cases hI
  case getfield j =>
    simp only [trI] at hI
    cases hr : lkF (mCls M) j with
    | none => rw [hr] at hI; cases hI
    | some r =>
      rw [hr] at hI
      simp only [Option.bind_some, gOp] at hI
      split at hI
      · cases hI; simp [zgr] at hg
      · split at hI <;> first | (cases hI; simp [zgr] at hg) | cases hI
  case putfield j =>
    simp only [trI] at hI
    cases hr : lkF (mCls M) j with
    | none => rw [hr] at hI; cases hI
    | some r =>
      rw [hr] at hI
      simp only [Option.bind_some, pOp] at hI
      split at hI
      · cases hI
      · split at hI
        · split at hI <;> (cases hI; simp [zgr] at hg)
        all_goals first | (cases hI; simp [zgr] at hg) | cases hI
  case new j =>
    simp only [trI] at hI
    cases hr : lkC (mCls M) j with
    | none => rw [hr] at hI; cases hI
    | some r => rw [hr] at hI; cases hI; simp [zgr] at hg
  case anewarray j =>
    simp only [trI] at hI
    cases hr : lkC (mCls M) j with
    | none => rw [hr] at hI; cases hI
    | some r => rw [hr] at hI; cases hI; simp [zgr] at hg
  case newarray t => cases t <;> simp only [trI] at hI <;> first | (cases hI; simp [zgr] at hg) | cases hI
  case return_ =>
    simp only [trI, Option.some.injEq] at hI; subst hI
    simp only [zst', zgr, zs1] at hz
    cases hz
  case ireturn =>
    simp only [trI, Option.some.injEq] at hI; subst hI
    simp only [zst', zgr, zs1] at hz
    cases hz
  case lreturn =>
    simp only [trI, Option.some.injEq] at hI; subst hI
    simp only [zst', zgr, zs1] at hz
    cases hz
  case areturn =>
    simp only [trI, Option.some.injEq] at hI; subst hI
    simp only [zst', zgr, zs1] at hz
    cases hz
  all_goals first | (simp only [trI] at hI; cases hI; done) | (simp only [trI, Option.some.injEq] at hI; subst hI; simp [zgr] at hg)
end ZT
