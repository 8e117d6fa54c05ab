/-! programs over worlds (worlds in, answer and world out, or none), and how they are held against the small machine -/
def ist (t c : Nat) : Prop := t < 192 ∧ (zsh t).1 = c
/-- where an object's own rows lie, behind it: by class and field -/
def zofs (c j : Nat) : Option Nat := match c, j with
  | 0, 2 => some 1
  | 0, 3 => some 2
  | 1, 7 => some 1
  | 1, 8 => some 2
  | 1, 9 => some 3
  | 1, 10 => some 4
  | 1, 11 => some 5
  | 1, 12 => some 6
  | 1, 13 => some 7
  | 1, 14 => some 8
  | 1, 15 => some 9
  | 3, 2 => some 1
  | 3, 3 => some 2
  | 3, 4 => some 3
  | 3, 5 => some 4
  | 3, 6 => some 5
  | 3, 9 => some 6
  | 4, 2 => some 1
  | 4, 3 => some 2
  | 4, 4 => some 3
  | 4, 5 => some 4
  | 4, 6 => some 5
  | 4, 7 => some 6
  | 4, 8 => some 7
  | 4, 9 => some 8
  | 4, 10 => some 9
  | 4, 14 => some 10
  | 4, 15 => some 11
  | 5, 1 => some 1
  | 5, 2 => some 2
  | 5, 3 => some 3
  | 5, 4 => some 4
  | 5, 5 => some 5
  | 5, 6 => some 6
  | 5, 7 => some 7
  | 6, 2 => some 1
  | 6, 3 => some 2
  | 6, 4 => some 3
  | 7, 0 => some 1
  | 7, 7 => some 2
  | 7, 8 => some 3
  | 7, 9 => some 4
  | 8, 3 => some 1
  | 8, 4 => some 2
  | 8, 5 => some 3
  | 9, 0 => some 1
  | 9, 1 => some 6
  | 9, 6 => some 35
  | 9, 7 => some 43
  | 9, 10 => some 44
  | 9, 11 => some 45
  | 9, 12 => some 46
  | 9, 13 => some 47
  | 9, 14 => some 48
  | 9, 15 => some 60
  | 9, 16 => some 64
  | 9, 17 => some 67
  | 10, 1 => some 1
  | 10, 6 => some 2
  | 10, 7 => some 3
  | 10, 8 => some 4
  | 10, 9 => some 5
  | 10, 10 => some 6
  | 10, 22 => some 7
  | 10, 24 => some 8
  | 10, 25 => some 9
  | 10, 26 => some 10
  | 10, 27 => some 11
  | 10, 30 => some 12
  | 10, 31 => some 13
  | 10, 36 => some 14
  | 10, 37 => some 15
  | 10, 38 => some 16
  | 10, 39 => some 17
  | 10, 40 => some 18
  | 10, 41 => some 19
  | 10, 45 => some 20
  | 10, 51 => some 21
  | 10, 52 => some 22
  | 10, 53 => some 23
  | 10, 54 => some 24
  | _, _ => none
/-- the world is whole; its references are where they were laid -/
def TY (w : Wd) : Prop := wn w = 192 ∧ (∀ t c j o, ist t c → zofs c j = some o → wR w t j = some (t + o)) ∧ wR w 6 0 = some 1 ∧
  (∃ a, wR w 0 2 = some a ∧ ist a 1) ∧ (∃ a, wR w 0 3 = some a ∧ ist a 1) ∧ (∃ a, wR w 0 4 = some a ∧ ist a 6) ∧ (∃ a, wR w 0 5 = some a ∧ ist a 6) ∧
  (∀ i, i < 6 → wR w 43 i = some (74 + 8 * i)) ∧ (∀ i, i < 2 → wR w 44 i = some (122 + 22 * i)) ∧ (∀ i, i < 2 → wR w 45 i = some (132 + 22 * i)) ∧ (∀ i, i < 2 → wR w 46 i = some (140 + 22 * i))
theorem TY.of {w w' : Wd} (h : TY w) (hn : wn w' = wn w) (hr : wR w' = wR w) : TY w' := by
  unfold TY
  rw [hn, hr]
  exact h
theorem TY.sI {w : Wd} (h : TY w) (k j : Nat) (v : Int32) : TY (sI w k j v) := h.of rfl rfl
theorem TY.sL {w : Wd} (h : TY w) (k j : Nat) (v : Int64) : TY (sL w k j v) := h.of rfl rfl
theorem TY.rI {w : Wd} (h : TY w) (k : Nat) (f : Nat → Int32) : TY (rI w k f) := h.of rfl rfl
theorem TY.rL {w : Wd} (h : TY w) (k : Nat) (f : Nat → Int64) : TY (rL w k f) := h.of rfl rfl
theorem ist0 {t : Nat} (h : ist t 9) : t = 0 := (by decide +kernel : ∀ t, t < 192 → (zsh t).1 = 9 → t = 0) t h.1 h.2
theorem ist6 {t : Nat} (h : ist t 2) : t = 6 := (by decide +kernel : ∀ t, t < 192 → (zsh t).1 = 2 → t = 6) t h.1 h.2
/-- home, draft, saying, sayingDraft -/
theorem TY.putR {w : Wd} (h : TY w) {j a : Nat} (hj : j = 2 ∨ j = 3 ∨ j = 4 ∨ j = 5) (ha : ist a (if j < 4 then 1 else 6)) : TY (sR w 0 j (some a)) := by
  obtain ⟨h1, h2, h3, h4, h5, h6, h7, h8, h9, h10, h11⟩ := h
  have hk : ∀ k i, k ≠ 0 → wR (sR w 0 j (some a)) k i = wR w k i := fun k i hk => by rw [wR_sR, if_neg (fun q => hk q.1)]
  have hs : ∀ q b, q ≠ j → wR w 0 q = b → wR (sR w 0 j (some a)) 0 q = b := fun q b hq hb => by rw [wR_sR, if_neg (fun z => hq z.2), hb]
  have hp : wR (sR w 0 j (some a)) 0 j = some a := by rw [wR_sR, if_pos ⟨rfl, rfl⟩]
  refine ⟨h1, fun t c i o ht ho => ?_, by rw [hk _ _ (by decide)]; exact h3, ?_, ?_, ?_, ?_, fun i hi => by rw [hk _ _ (by decide)]; exact h8 i hi, fun i hi => by rw [hk _ _ (by decide)]; exact h9 i hi, fun i hi => by rw [hk _ _ (by decide)]; exact h10 i hi, fun i hi => by rw [hk _ _ (by decide)]; exact h11 i hi⟩
  · by_cases e : t = 0
    · subst e
      have hc : c = 9 := by rw [← ht.2]; rfl
      subst hc
      rw [hs i _ (fun q => by subst q; rcases hj with q | q | q | q <;> subst q <;> cases ho) rfl]
      exact h2 0 9 i o ht ho
    · rw [hk t i e]; exact h2 t c i o ht ho
  · rcases hj with q | q | q | q <;> subst q
    · exact ⟨a, hp, ha⟩
    all_goals (obtain ⟨b, g1, g2⟩ := h4; exact ⟨b, hs _ _ (by decide) g1, g2⟩)
  · rcases hj with q | q | q | q <;> subst q
    · obtain ⟨b, g1, g2⟩ := h5; exact ⟨b, hs _ _ (by decide) g1, g2⟩
    · exact ⟨a, hp, ha⟩
    all_goals (obtain ⟨b, g1, g2⟩ := h5; exact ⟨b, hs _ _ (by decide) g1, g2⟩)
  · rcases hj with q | q | q | q <;> subst q
    · obtain ⟨b, g1, g2⟩ := h6; exact ⟨b, hs _ _ (by decide) g1, g2⟩
    · obtain ⟨b, g1, g2⟩ := h6; exact ⟨b, hs _ _ (by decide) g1, g2⟩
    · exact ⟨a, hp, ha⟩
    · obtain ⟨b, g1, g2⟩ := h6; exact ⟨b, hs _ _ (by decide) g1, g2⟩
  · rcases hj with q | q | q | q <;> subst q
    · obtain ⟨b, g1, g2⟩ := h7; exact ⟨b, hs _ _ (by decide) g1, g2⟩
    · obtain ⟨b, g1, g2⟩ := h7; exact ⟨b, hs _ _ (by decide) g1, g2⟩
    · obtain ⟨b, g1, g2⟩ := h7; exact ⟨b, hs _ _ (by decide) g1, g2⟩
    · exact ⟨a, hp, ha⟩
/-! the programs -/
def bi (b : Bool) : Int32 := match b with
  | true => 1
  | false => 0
/-- a loop: its body goes on, or ends -/
def itM {S α : Type} (body : S → Wd → Option ((S ⊕ α) × Wd)) : Nat → S → Wd → Option (α × Wd)
  | 0, _, _ => none
  | n + 1, s, w => match body s w with
    | none => none
    | some (.inl s', w') => itM body n s' w'
    | some (.inr r, w') => some (r, w')
def cl {α β : Type} (m : Option (α × Wd)) (f : α → Wd → Option β) : Option β := match m with
  | none => none
  | some (r, w) => f r w
def lt {α β : Type} (x : α) (f : α → β) : β := f x
def gd {β : Type} (b : Bool) (k : Option β) : Option β := match b with
  | true => k
  | false => none
def der {β : Type} (o : Option Nat) (f : Nat → Option β) : Option β := match o with
  | none => none
  | some a => f a
def nul {β : Type} (o : Option Nat) (k : Option β) (f : Nat → Option β) : Option β := match o with
  | none => k
  | some a => f a
def stI {β : Type} (w : Wd) (k j : Nat) (v : Int32) (f : Wd → Option β) : Option β := f (sI w k j v)
def stL {β : Type} (w : Wd) (k j : Nat) (v : Int64) (f : Wd → Option β) : Option β := f (sL w k j v)
def stR {β : Type} (w : Wd) (k j : Nat) (v : Option Nat) (f : Wd → Option β) : Option β := f (sR w k j v)
/-- System.arraycopy of ints, longs: from o to q, sp, dp, n; lo, lq their lengths -/
def cpI {β : Type} (w : Wd) (o lo : Nat) (sp : Int32) (q lq : Nat) (dp n : Int32) (f : Wd → Option β) : Option β :=
  if 0 ≤ sp ∧ 0 ≤ dp ∧ 0 ≤ n ∧ ix sp + ix n ≤ lo ∧ ix dp + ix n ≤ lq then f (rI w q (va_cpy (wI w o) (wI w q) (ix sp) (ix dp) (ix n))) else none
def cpL {β : Type} (w : Wd) (o lo : Nat) (sp : Int32) (q lq : Nat) (dp n : Int32) (f : Wd → Option β) : Option β :=
  if 0 ≤ sp ∧ 0 ≤ dp ∧ 0 ≤ n ∧ ix sp + ix n ≤ lo ∧ ix dp + ix n ≤ lq then f (rL w q (va_cpy (wL w o) (wL w q) (ix sp) (ix dp) (ix n))) else none
def jn {A α : Type} (J : A → Wd → Option (α × Wd)) (f : (A → Wd → Option (α × Wd)) → Option (α × Wd)) : Option (α × Wd) := f J
/-- a switch: the int against 0, 1, .. -/
def swt {β : Type} (x : Int32) (f : Nat → Option β) (g : Option β) (n : Nat) : Option β := if 0 ≤ x ∧ ix x < n then f (ix x) else g
/-! holding -/
def sp {α : Type} (m : Option (α × Wd)) (P : α → Wd → Prop) : Prop := ∀ r w', m = some (r, w') → P r w'
theorem sp_none {α : Type} {P : α → Wd → Prop} : sp none P := fun _ _ h => by cases h
theorem sp_some {α : Type} {P : α → Wd → Prop} {r : α} {w : Wd} (h : P r w) : sp (some (r, w)) P := fun r' w' e => by cases e; exact h
theorem sp_ite {α : Type} {P : α → Wd → Prop} {c : Prop} [Decidable c] {a b : Option (α × Wd)} (h1 : c → sp a P) (h2 : ¬ c → sp b P) : sp (if c then a else b) P := by
  split
  · rename_i h; exact h1 h
  · rename_i h; exact h2 h
theorem sp_gd {α : Type} {P : α → Wd → Prop} {b : Bool} {a : Option (α × Wd)} (h1 : b = true → sp a P) : sp (gd b a) P := by
  cases b
  · exact sp_none
  · exact h1 rfl
theorem sp_lt {α β : Type} {P : α → Wd → Prop} {x : β} {f : β → Option (α × Wd)} (h : ∀ y, y = x → sp (f y) P) : sp (lt x f) P := h x rfl
theorem sp_nul {α : Type} {P : α → Wd → Prop} {o : Option Nat} {k : Option (α × Wd)} {f : Nat → Option (α × Wd)} (h1 : o = none → sp k P) (h2 : ∀ a, o = some a → sp (f a) P) : sp (nul o k f) P := by
  cases o with
  | none => exact h1 rfl
  | some a => exact h2 a rfl
/-- fewer locals known -/
def subl (l lv : List (Nat × Value)) : Prop := match l with
  | [] => True
  | q :: l => lgt lv q.1 = some q.2 ∧ subl l lv
theorem subl_mem {l lv : List (Nat × Value)} (h : subl l lv) : ∀ q ∈ l, q ∈ lv := by
  have key : ∀ (lv : List (Nat × Value)) (i : Nat) (v : Value), lgt lv i = some v → (i, v) ∈ lv := by
    intro lv
    induction lv with
    | nil => intro i v h; cases h
    | cons q lv ih =>
      intro i v h
      unfold lgt at h
      cases hb : Nat.beq q.1 i with
      | true =>
        rw [hb] at h
        have h1 : q.2 = v := Option.some.inj h
        have h2 := Nat.eq_of_beq_eq_true hb
        rw [← h1, ← h2]
        exact List.mem_cons_self
      | false =>
        rw [hb] at h
        exact List.mem_cons_of_mem _ (ih i v h)
  induction l with
  | nil => intro q hq; cases hq
  | cons a l ih =>
    intro q hq
    rcases List.mem_cons.mp hq with e | e
    · subst e; exact key _ _ _ h.1
    · exact ih h.2 q e
section RUN
variable {E : Evf} {M : Mth}
def PP (E : Evf) (M : Mth) {α : Type} (K : α → Wd → Option Value → Wd → Prop) (a : Cfg) : α → Wd → Prop := fun o w' => TY w' ∧ ∀ R W, K o w' R W → Zfn E M a R W
def KL (E : Evf) (M : Mth) {S α : Type} (h : Nat) (lvL : S → List (Nat × Value)) (K : α → Wd → Option Value → Wd → Prop) : S ⊕ α → Wd → Option Value → Wd → Prop := fun o w' R W => match o with
  | .inl s => Zfn E M (h, lvL s, [], w') R W
  | .inr r => K r w' R W
def KR {α : Type} (cv : α → Option Value) : α → Wd → Option Value → Wd → Prop := fun r w' R W => R = cv r ∧ W = w'
def cvI (x : Int32) : Option Value := some (.int x)
def cvZ (x : Bool) : Option Value := some (.int (bi x))
def cvL (x : Int64) : Option Value := some (.long x)
def cvV (_ : Unit) : Option Value := none
def cvR (x : Option Nat) : Option Value := some (va_rf x)
theorem zfn_step {a b : Cfg} {R : Option Value} {W : Wd} (h : Zst E M a b) (k : Zfn E M b R W) : Zfn E M a R W := by
  obtain ⟨n, c, op, npc, h1, h2⟩ := k
  exact ⟨n + 1, c, op, npc, ⟨b, h, h1⟩, h2⟩
variable {α : Type} {m : Option (α × Wd)} {K : α → Wd → Option Value → Wd → Prop} {pc npc : Nat} {lv : List (Nat × Value)} {st : List Value} {w : Wd}
theorem s_zst {a b : Cfg} (h : Zst E M a b) (k : sp m (PP E M K b)) : sp m (PP E M K a) := fun r w' e => ⟨(k r w' e).1, fun R W g => zfn_step h ((k r w' e).2 R W g)⟩
theorem s_step {op : Op4} {b : Cfg} (ho : opAt (mCode M) pc = some (op, npc)) (hs : zst' M op npc lv st w = some b) (k : sp m (PP E M K b)) : sp m (PP E M K (pc, lv, st, w)) := s_zst (Or.inl ⟨op, npc, ho, Or.inl hs⟩) k
theorem s_fgt (lv' : List (Nat × Value)) (hs : subl lv' lv) (k : sp m (PP E M K (pc, lv', st, w))) : sp m (PP E M K (pc, lv, st, w)) := s_zst (Or.inr ⟨lv', subl_mem hs, rfl⟩) k
theorem s_const {a b : Nat} {v : Int32} (ho : opAt (mCode M) pc = some ((0, a, b, v), npc)) (k : sp m (PP E M K (npc, lv, .int v :: st, w))) : sp m (PP E M K (pc, lv, st, w)) := s_step ho rfl k
theorem s_lconst {a b : Nat} {v : Int32} {x : Int64} (ho : opAt (mCode M) pc = some ((1, a, b, v), npc)) (hx : zlc a = x) (k : sp m (PP E M K (npc, lv, .long x :: st, w))) : sp m (PP E M K (pc, lv, st, w)) := s_step ho (by rw [← hx]; rfl) k
theorem s_iload {a b : Nat} {v x : Int32} (ho : opAt (mCode M) pc = some ((2, a, b, v), npc)) (hl : lgt lv a = some (.int x)) (k : sp m (PP E M K (npc, lv, .int x :: st, w))) : sp m (PP E M K (pc, lv, st, w)) := s_step ho (by show zs1 2 a b v npc lv st w = _; simp only [zs1, hl]) k
theorem s_lload {a b : Nat} {v : Int32} {x : Int64} (ho : opAt (mCode M) pc = some ((3, a, b, v), npc)) (hl : lgt lv a = some (.long x)) (k : sp m (PP E M K (npc, lv, .long x :: st, w))) : sp m (PP E M K (pc, lv, st, w)) := s_step ho (by show zs1 3 a b v npc lv st w = _; simp only [zs1, hl]) k
theorem s_aload {a b : Nat} {v : Int32} {x : Nat} (ho : opAt (mCode M) pc = some ((4, a, b, v), npc)) (hl : lgt lv a = some (.ref x)) (k : sp m (PP E M K (npc, lv, .ref x :: st, w))) : sp m (PP E M K (pc, lv, st, w)) := s_step ho (by show zs1 4 a b v npc lv st w = _; simp only [zs1, hl]) k
theorem s_aloadR {a b : Nat} {v : Int32} {x : Option Nat} (ho : opAt (mCode M) pc = some ((4, a, b, v), npc)) (hl : lgt lv a = some (va_rf x)) (k : sp m (PP E M K (npc, lv, va_rf x :: st, w))) : sp m (PP E M K (pc, lv, st, w)) := s_step ho (by show zs1 4 a b v npc lv st w = _; cases x <;> simp only [zs1, hl, va_rf]) k
theorem s_istore {a b : Nat} {v x : Int32} (ho : opAt (mCode M) pc = some ((5, a, b, v), npc)) (k : sp m (PP E M K (npc, lst1 lv a (.int x), st, w))) : sp m (PP E M K (pc, lv, .int x :: st, w)) := s_step ho rfl k
theorem s_lstore {a b : Nat} {v : Int32} {x : Int64} (ho : opAt (mCode M) pc = some ((6, a, b, v), npc)) (k : sp m (PP E M K (npc, lst2 lv a (.long x), st, w))) : sp m (PP E M K (pc, lv, .long x :: st, w)) := s_step ho rfl k
theorem s_astore {a b : Nat} {v : Int32} {x : Nat} (ho : opAt (mCode M) pc = some ((7, a, b, v), npc)) (k : sp m (PP E M K (npc, lst1 lv a (.ref x), st, w))) : sp m (PP E M K (pc, lv, .ref x :: st, w)) := s_step ho rfl k
theorem s_astoreR {a b : Nat} {v : Int32} {x : Option Nat} (ho : opAt (mCode M) pc = some ((7, a, b, v), npc)) (k : sp m (PP E M K (npc, lst1 lv a (va_rf x), st, w))) : sp m (PP E M K (pc, lv, va_rf x :: st, w)) := s_step ho (by cases x <;> rfl) k
theorem s_iinc {a b : Nat} {v x : Int32} {f : Int32 → Option (α × Wd)} (ho : opAt (mCode M) pc = some ((8, a, b, v), npc)) (hl : lgt lv a = some (.int x)) (k : ∀ y : Int32, y = x + v → sp (f y) (PP E M K (npc, lst1 lv a (.int y), st, w))) : sp (lt (x + v) f) (PP E M K (pc, lv, st, w)) := s_step ho (by show zs1 8 a b v npc lv st w = _; simp only [zs1, hl]) (k _ rfl)
theorem s_bin {a b : Nat} {v x y z : Int32} (ho : opAt (mCode M) pc = some ((9, a, b, v), npc)) (hz : zbin a x y = some z) (k : sp m (PP E M K (npc, lv, .int z :: st, w))) : sp m (PP E M K (pc, lv, .int y :: .int x :: st, w)) := s_step ho (by show (zbin a x y).map _ = _; rw [hz]; rfl) k
theorem s_div {b : Nat} {v x y : Int32} (ho : opAt (mCode M) pc = some ((9, 3, b, v), npc)) (hy : ¬ y = 0) (k : sp m (PP E M K (npc, lv, .int (x / y) :: st, w))) : sp m (PP E M K (pc, lv, .int y :: .int x :: st, w)) := s_bin ho (by simp only [zbin, if_neg hy]) k
theorem s_rem {b : Nat} {v x y : Int32} (ho : opAt (mCode M) pc = some ((9, 4, b, v), npc)) (hy : ¬ y = 0) (k : sp m (PP E M K (npc, lv, .int (zrem x y) :: st, w))) : sp m (PP E M K (pc, lv, .int y :: .int x :: st, w)) := s_bin ho (by simp only [zbin, if_neg hy]) k
theorem s_lbin {a b : Nat} {v : Int32} {x y z : Int64} (ho : opAt (mCode M) pc = some ((10, a, b, v), npc)) (hz : zlbin a x y = some z) (k : sp m (PP E M K (npc, lv, .long z :: st, w))) : sp m (PP E M K (pc, lv, .long y :: .long x :: st, w)) := s_step ho (by show (zlbin a x y).map _ = _; rw [hz]; rfl) k
theorem s_lcmp {a b : Nat} {v : Int32} {x y : Int64} (ho : opAt (mCode M) pc = some ((11, a, b, v), npc)) (k : sp m (PP E M K (npc, lv, .int (lg_cmp x y) :: st, w))) : sp m (PP E M K (pc, lv, .long y :: .long x :: st, w)) := s_step ho rfl k
theorem s_i2l {a b : Nat} {v x : Int32} (ho : opAt (mCode M) pc = some ((12, a, b, v), npc)) (k : sp m (PP E M K (npc, lv, .long x.toInt64 :: st, w))) : sp m (PP E M K (pc, lv, .int x :: st, w)) := s_step ho rfl k
theorem s_l2i {a b : Nat} {v : Int32} {x : Int64} (ho : opAt (mCode M) pc = some ((13, a, b, v), npc)) (k : sp m (PP E M K (npc, lv, .int x.toInt32 :: st, w))) : sp m (PP E M K (pc, lv, .long x :: st, w)) := s_step ho rfl k
theorem s_i2b {a b : Nat} {v x : Int32} (ho : opAt (mCode M) pc = some ((14, a, b, v), npc)) (k : sp m (PP E M K (npc, lv, .int x.toInt8.toInt32 :: st, w))) : sp m (PP E M K (pc, lv, .int x :: st, w)) := s_step ho rfl k
theorem s_ineg {a b : Nat} {v x : Int32} (ho : opAt (mCode M) pc = some ((53, a, b, v), npc)) (k : sp m (PP E M K (npc, lv, .int (-x) :: st, w))) : sp m (PP E M K (pc, lv, .int x :: st, w)) := s_step ho rfl k
theorem s_lshl {a b : Nat} {v y : Int32} {x : Int64} (ho : opAt (mCode M) pc = some ((54, a, b, v), npc)) (k : sp m (PP E M K (npc, lv, .long (x <<< (y.toInt64 &&& 63)) :: st, w))) : sp m (PP E M K (pc, lv, .int y :: .long x :: st, w)) := s_step ho rfl k
theorem s_dup {a b : Nat} {v : Int32} {x : Value} (ho : opAt (mCode M) pc = some ((15, a, b, v), npc)) (hx : x.category = 1) (k : sp m (PP E M K (npc, lv, x :: x :: st, w))) : sp m (PP E M K (pc, lv, x :: st, w)) := s_step ho (by show (if x.category = 1 then _ else _) = _; rw [if_pos hx]) k
theorem s_pop {a b : Nat} {v : Int32} {x : Value} (ho : opAt (mCode M) pc = some ((16, a, b, v), npc)) (hx : x.category = 1) (k : sp m (PP E M K (npc, lv, st, w))) : sp m (PP E M K (pc, lv, x :: st, w)) := s_step ho (by show (if x.category = 1 then _ else _) = _; rw [if_pos hx]) k
theorem s_dup2 {a b : Nat} {v : Int32} {x y : Value} (ho : opAt (mCode M) pc = some ((17, a, b, v), npc)) (hx : x.category = 1 ∧ y.category = 1) (k : sp m (PP E M K (npc, lv, x :: y :: x :: y :: st, w))) : sp m (PP E M K (pc, lv, x :: y :: st, w)) := s_step ho (by show (if x.category = 1 ∧ y.category = 1 then _ else _) = _; rw [if_pos hx]) k
theorem s_if1 {a b : Nat} {v x : Int32} (ho : opAt (mCode M) pc = some ((18, a, b, v), npc)) (hc : zcnd a x 0 = true) (k : sp m (PP E M K (b, lv, st, w))) : sp m (PP E M K (pc, lv, .int x :: st, w)) := s_step ho (by show some (bif zcnd a x 0 then b else npc, lv, st, w) = _; rw [hc]; rfl) k
theorem s_if0 {a b : Nat} {v x : Int32} (ho : opAt (mCode M) pc = some ((18, a, b, v), npc)) (hc : zcnd a x 0 = false) (k : sp m (PP E M K (npc, lv, st, w))) : sp m (PP E M K (pc, lv, .int x :: st, w)) := s_step ho (by show some (bif zcnd a x 0 then b else npc, lv, st, w) = _; rw [hc]; rfl) k
theorem s_ic1 {a b : Nat} {v x y : Int32} (ho : opAt (mCode M) pc = some ((19, a, b, v), npc)) (hc : zcnd a x y = true) (k : sp m (PP E M K (b, lv, st, w))) : sp m (PP E M K (pc, lv, .int y :: .int x :: st, w)) := s_step ho (by show some (bif zcnd a x y then b else npc, lv, st, w) = _; rw [hc]; rfl) k
theorem s_ic0 {a b : Nat} {v x y : Int32} (ho : opAt (mCode M) pc = some ((19, a, b, v), npc)) (hc : zcnd a x y = false) (k : sp m (PP E M K (npc, lv, st, w))) : sp m (PP E M K (pc, lv, .int y :: .int x :: st, w)) := s_step ho (by show some (bif zcnd a x y then b else npc, lv, st, w) = _; rw [hc]; rfl) k
theorem s_acn {b : Nat} {v : Int32} {x y : Option Nat} (ho : opAt (mCode M) pc = some ((20, 1, b, v), npc)) (hx : zwk x = true) (hy : zwk y = true) (k1 : ¬ x = y → sp m (PP E M K (b, lv, st, w))) (k0 : x = y → sp m (PP E M K (npc, lv, st, w))) : sp m (PP E M K (pc, lv, va_rf y :: va_rf x :: st, w)) := by
  have e : ∀ o : Option Nat, zref (va_rf o) = some o := fun o => by cases o <;> rfl
  have hs : zst' M (20, 1, b, v) npc lv (va_rf y :: va_rf x :: st) w = some (bif Nat.beq 1 0 == decide (x = y) then b else npc, lv, st, w) := by
    show zs1 20 1 b v npc lv (va_rf y :: va_rf x :: st) w = _
    simp only [zs1, e, hx, hy, and_self, if_true]
  by_cases h : x = y
  · exact s_step ho hs (by rw [show (Nat.beq 1 0 == decide (x = y)) = false from by rw [decide_eq_true h]; rfl]; exact k0 h)
  · exact s_step ho hs (by rw [show (Nat.beq 1 0 == decide (x = y)) = true from by rw [decide_eq_false h]; rfl]; exact k1 h)
theorem s_null1 {b : Nat} {v : Int32} (ho : opAt (mCode M) pc = some ((21, 0, b, v), npc)) (k : sp m (PP E M K (b, lv, st, w))) : sp m (PP E M K (pc, lv, .null :: st, w)) := s_step ho rfl k
theorem s_null0 {b : Nat} {v : Int32} {x : Nat} (ho : opAt (mCode M) pc = some ((21, 0, b, v), npc)) (k : sp m (PP E M K (npc, lv, st, w))) : sp m (PP E M K (pc, lv, .ref x :: st, w)) := s_step ho rfl k
theorem s_nonnull1 {b : Nat} {v : Int32} {x : Nat} (ho : opAt (mCode M) pc = some ((21, 1, b, v), npc)) (k : sp m (PP E M K (b, lv, st, w))) : sp m (PP E M K (pc, lv, .ref x :: st, w)) := s_step ho rfl k
theorem s_nonnull0 {b : Nat} {v : Int32} (ho : opAt (mCode M) pc = some ((21, 1, b, v), npc)) (k : sp m (PP E M K (npc, lv, st, w))) : sp m (PP E M K (pc, lv, .null :: st, w)) := s_step ho rfl k
theorem s_goto {a b : Nat} {v : Int32} (ho : opAt (mCode M) pc = some ((22, a, b, v), npc)) (k : sp m (PP E M K (b, lv, st, w))) : sp m (PP E M K (pc, lv, st, w)) := s_step ho rfl k
theorem s_sw {a b t : Nat} {v x : Int32} (ho : opAt (mCode M) pc = some ((23, a, b, v), npc)) (ht : zsw3 a x = t) (k : sp m (PP E M K (t, lv, st, w))) : sp m (PP E M K (pc, lv, .int x :: st, w)) := s_step ho (by rw [← ht]; rfl) k
theorem s_static {a b : Nat} {v : Int32} (ho : opAt (mCode M) pc = some ((26, a, b, v), npc)) (k : sp m (PP E M K (npc, lv, .ref a :: st, w))) : sp m (PP E M K (pc, lv, st, w)) := s_step ho rfl k
theorem s_anull {a b : Nat} {v : Int32} (ho : opAt (mCode M) pc = some ((45, a, b, v), npc)) (k : sp m (PP E M K (npc, lv, .null :: st, w))) : sp m (PP E M K (pc, lv, st, w)) := s_step ho rfl k
theorem zob {o c : Nat} (hT : TY w) (h : ist o c) : zobj w o c = true := by
  unfold zobj
  rw [hT.1, h.2, Bool.and_eq_true]
  exact ⟨by simpa [Nat.blt_eq] using h.1, Nat.beq_refl _⟩
theorem s_getI {a b o : Nat} {v : Int32} (ho : opAt (mCode M) pc = some ((24, a, b, v), npc)) (hT : TY w) (ht : ist o a) (k : sp m (PP E M K (npc, lv, .int (wI w o b) :: st, w))) : sp m (PP E M K (pc, lv, .ref o :: st, w)) := s_step ho (by show (if zobj w o a = true then _ else _) = _; rw [if_pos (zob hT ht)]) k
theorem s_getL {a b o : Nat} {v : Int32} (ho : opAt (mCode M) pc = some ((48, a, b, v), npc)) (hT : TY w) (ht : ist o a) (k : sp m (PP E M K (npc, lv, .long (wL w o b) :: st, w))) : sp m (PP E M K (pc, lv, .ref o :: st, w)) := s_step ho (by show (if zobj w o a = true then _ else _) = _; rw [if_pos (zob hT ht)]) k
theorem s_getF {a b o q : Nat} {v : Int32} (ho : opAt (mCode M) pc = some ((49, a, b, v), npc)) (hT : TY w) (ht : ist o a) (hq : zofs a b = some q) (k : sp m (PP E M K (npc, lv, .ref (o + q) :: st, w))) : sp m (PP E M K (pc, lv, .ref o :: st, w)) := s_step ho (by show (if zobj w o a = true then _ else _) = _; rw [if_pos (zob hT ht), hT.2.1 o a b q ht hq]; rfl) k
theorem s_get6 {o : Nat} {v : Int32} (ho : opAt (mCode M) pc = some ((49, 2, 0, v), npc)) (hT : TY w) (ht : ist o 2) (k : sp m (PP E M K (npc, lv, .ref 1 :: st, w))) : sp m (PP E M K (pc, lv, .ref o :: st, w)) := s_step ho (by show (if zobj w o 2 = true then _ else _) = _; rw [if_pos (zob hT ht), ist6 ht, hT.2.2.1]; rfl) k
theorem TY.ref9 {j a : Nat} (hT : TY w) (hj : j = 2 ∨ j = 3 ∨ j = 4 ∨ j = 5) (ha : wR w 0 j = some a) : ist a (if j < 4 then 1 else 6) := by
  obtain ⟨h1, h2, h3, ⟨a4, h4, g4⟩, ⟨a5, h5, g5⟩, ⟨a6, h6, g6⟩, ⟨a7, h7, g7⟩, -⟩ := hT
  rcases hj with q | q | q | q <;> subst q
  · rw [h4] at ha; cases ha; exact g4
  · rw [h5] at ha; cases ha; exact g5
  · rw [h6] at ha; cases ha; exact g6
  · rw [h7] at ha; cases ha; exact g7
theorem s_getD {b o c : Nat} {v : Int32} {f : Nat → Option (α × Wd)} (ho : opAt (mCode M) pc = some ((49, 9, b, v), npc)) (hT : TY w) (ht : ist o 9) (hb : b = 2 ∨ b = 3 ∨ b = 4 ∨ b = 5) (hc : (if b < 4 then 1 else 6) = c) (k : ∀ a, ist a c → sp (f a) (PP E M K (npc, lv, .ref a :: st, w))) : sp (der (wR w o b) f) (PP E M K (pc, lv, .ref o :: st, w)) := by
  have h0 := ist0 ht
  subst h0
  cases hr : wR w 0 b with
  | none => exact sp_none
  | some a => exact s_step ho (by show (if zobj w 0 9 = true then _ else _) = _; rw [if_pos (zob hT ht), hr]; rfl) (k a (hc ▸ hT.ref9 hb hr))
theorem s_putI {a b o : Nat} {v x : Int32} {f : Wd → Option (α × Wd)} (ho : opAt (mCode M) pc = some ((25, a, b, v), npc)) (hT : TY w) (ht : ist o a) (hf : zpf M a b = true) (k : ∀ w1, TY w1 → sp (f w1) (PP E M K (npc, lv, st, w1))) : sp (stI w o b x f) (PP E M K (pc, lv, .int x :: .ref o :: st, w)) := s_step ho (by show (if zobj w o a = true ∧ zpf M a b = true then _ else _) = _; rw [if_pos ⟨zob hT ht, hf⟩]) (k _ (hT.sI o b x))
theorem s_putZ {a b o : Nat} {v x : Int32} {f : Wd → Option (α × Wd)} (ho : opAt (mCode M) pc = some ((52, a, b, v), npc)) (hT : TY w) (ht : ist o a) (hf : zpf M a b = true) (hx : x = 0 ∨ x = 1) (k : ∀ w1, TY w1 → sp (f w1) (PP E M K (npc, lv, st, w1))) : sp (stI w o b x f) (PP E M K (pc, lv, .int x :: .ref o :: st, w)) := s_step ho (by show (if zobj w o a = true ∧ zpf M a b = true ∧ (x = 0 ∨ x = 1) then _ else _) = _; rw [if_pos ⟨zob hT ht, hf, hx⟩]) (k _ (hT.sI o b x))
theorem s_putL {a b o : Nat} {v : Int32} {x : Int64} {f : Wd → Option (α × Wd)} (ho : opAt (mCode M) pc = some ((50, a, b, v), npc)) (hT : TY w) (ht : ist o a) (hf : zpf M a b = true) (k : ∀ w1, TY w1 → sp (f w1) (PP E M K (npc, lv, st, w1))) : sp (stL w o b x f) (PP E M K (pc, lv, .long x :: .ref o :: st, w)) := s_step ho (by show (if zobj w o a = true ∧ zpf M a b = true then _ else _) = _; rw [if_pos ⟨zob hT ht, hf⟩]) (k _ (hT.sL o b x))
theorem s_putR {b o x c : Nat} {v : Int32} {f : Wd → Option (α × Wd)} (ho : opAt (mCode M) pc = some ((51, 9, b, v), npc)) (hT : TY w) (ht : ist o 9) (hf : zpf M 9 b = true) (hb : b = 2 ∨ b = 3 ∨ b = 4 ∨ b = 5) (hc : (if b < 4 then 1 else 6) = c) (hx : ist x c) (k : ∀ w1, TY w1 → sp (f w1) (PP E M K (npc, lv, st, w1))) : sp (stR w o b (some x) f) (PP E M K (pc, lv, .ref x :: .ref o :: st, w)) := by
  have h0 := ist0 ht
  subst h0
  exact s_step ho (by show (if zobj w 0 9 = true ∧ zpf M 9 b = true then _ else _) = _; rw [if_pos ⟨zob hT ht, hf⟩]) (k _ (hT.putR hb (hc ▸ hx)))
/-- a row: its kind and length -/
def rw_ (o t n : Nat) : Prop := o < 192 ∧ zsh o = (t, n)
theorem rw_.ob {o t n : Nat} (hT : TY w) (h : rw_ o t n) : zobj w o t = true := zob hT ⟨h.1, by rw [h.2]⟩
theorem rw_.ne {o t n : Nat} (h : rw_ o t n) : ¬ o = 1000 ∧ ¬ o = 1001 := ⟨fun e => by have := h.1; omega, fun e => by have := h.1; omega⟩
theorem s_iald {a b o n : Nat} {v i : Int32} (ho : opAt (mCode M) pc = some ((27, a, b, v), npc)) (hT : TY w) (hr : rw_ o 101 n) (k : sp m (PP E M K (npc, lv, .int (wI w o (ix i)) :: st, w))) : sp (gd (ib i n) m) (PP E M K (pc, lv, .int i :: .ref o :: st, w)) :=
  sp_gd fun hi => s_step ho (by show (if o = 1000 then _ else _) = _; rw [if_neg hr.ne.1, if_pos ⟨hr.ob hT, by rw [hr.2]; exact hi⟩]) k
theorem s_lald {a b o n : Nat} {v i : Int32} (ho : opAt (mCode M) pc = some ((28, a, b, v), npc)) (hT : TY w) (hr : rw_ o 102 n) (k : sp m (PP E M K (npc, lv, .long (wL w o (ix i)) :: st, w))) : sp (gd (ib i n) m) (PP E M K (pc, lv, .int i :: .ref o :: st, w)) :=
  sp_gd fun hi => s_step ho (by show (if zobj w o 102 = true ∧ _ then _ else _) = _; rw [if_pos ⟨hr.ob hT, by rw [hr.2]; exact hi⟩]) k
theorem s_bald {a b o n t : Nat} {v i : Int32} (ho : opAt (mCode M) pc = some ((29, a, b, v), npc)) (hT : TY w) (hr : rw_ o t n) (ht : t = 103 ∨ t = 104) (k : sp m (PP E M K (npc, lv, .int (wI w o (ix i)) :: st, w))) : sp (gd (ib i n) m) (PP E M K (pc, lv, .int i :: .ref o :: st, w)) :=
  sp_gd fun hi => s_step ho (by show (if (zobj w o 103 = true ∨ zobj w o 104 = true) ∧ _ then _ else _) = _; rw [if_pos ⟨by rcases ht with e | e <;> subst e; exact Or.inl (hr.ob hT); exact Or.inr (hr.ob hT), by rw [hr.2]; exact hi⟩]) k
theorem s_iast {a b o n : Nat} {v i x : Int32} {f : Wd → Option (α × Wd)} (ho : opAt (mCode M) pc = some ((31, a, b, v), npc)) (hT : TY w) (hr : rw_ o 101 n) (k : ∀ w1, TY w1 → sp (f w1) (PP E M K (npc, lv, st, w1))) : sp (gd (ib i n) (stI w o (ix i) x f)) (PP E M K (pc, lv, .int x :: .int i :: .ref o :: st, w)) :=
  sp_gd fun hi => s_step ho (by show (if zobj w o 101 = true ∧ _ then _ else _) = _; rw [if_pos ⟨hr.ob hT, by rw [hr.2]; exact hi⟩]) (k _ (hT.sI _ _ _))
theorem s_last {a b o n : Nat} {v i : Int32} {x : Int64} {f : Wd → Option (α × Wd)} (ho : opAt (mCode M) pc = some ((32, a, b, v), npc)) (hT : TY w) (hr : rw_ o 102 n) (k : ∀ w1, TY w1 → sp (f w1) (PP E M K (npc, lv, st, w1))) : sp (gd (ib i n) (stL w o (ix i) x f)) (PP E M K (pc, lv, .long x :: .int i :: .ref o :: st, w)) :=
  sp_gd fun hi => s_step ho (by show (if zobj w o 102 = true ∧ _ then _ else _) = _; rw [if_pos ⟨hr.ob hT, by rw [hr.2]; exact hi⟩]) (k _ (hT.sL _ _ _))
theorem s_bast {a b o n : Nat} {v i x y : Int32} {f : Wd → Option (α × Wd)} (ho : opAt (mCode M) pc = some ((33, a, b, v), npc)) (hT : TY w) (hr : rw_ o 103 n) (hy : vp_nar .byte x = y) (k : ∀ w1, TY w1 → sp (f w1) (PP E M K (npc, lv, st, w1))) : sp (gd (ib i n) (stI w o (ix i) y f)) (PP E M K (pc, lv, .int x :: .int i :: .ref o :: st, w)) :=
  sp_gd fun hi => s_step ho (by show (if zobj w o 103 = true ∧ _ then _ else _) = _; rw [if_pos ⟨hr.ob hT, by rw [hr.2]; exact hi⟩, hy]) (k _ (hT.sI _ _ _))
theorem s_zast {a b o n : Nat} {v i x y : Int32} {f : Wd → Option (α × Wd)} (ho : opAt (mCode M) pc = some ((33, a, b, v), npc)) (hT : TY w) (hr : rw_ o 104 n) (hy : vp_nar .boolean x = y) (k : ∀ w1, TY w1 → sp (f w1) (PP E M K (npc, lv, st, w1))) : sp (gd (ib i n) (stI w o (ix i) y f)) (PP E M K (pc, lv, .int x :: .int i :: .ref o :: st, w)) := by
  have h3 : zobj w o 103 = false := by
    cases h : zobj w o 103 with
    | false => rfl
    | true =>
      have h1 := (zobj_iff h).2
      rw [hr.2] at h1
      cases h1
  exact sp_gd fun hi => s_step ho (by show (if zobj w o 103 = true ∧ _ then _ else _) = _; rw [if_neg (by rw [h3]; exact fun q => by cases q.1), if_pos ⟨hr.ob hT, by rw [hr.2]; exact hi⟩, hy]) (k _ (hT.sI _ _ _))
/-- rows of objects: what stands there was laid there -/
theorem s_aald {a b o n c q : Nat} {v i : Int32} (ho : opAt (mCode M) pc = some ((30, a, b, v), npc)) (hT : TY w) (hr : rw_ o c n) (hc : c = 111 ∨ c = 115 ∨ c = 116) (hq : ∀ j, j < n → wR w o j = some (q + (if c = 115 ∧ o = 43 then 8 else 22) * j)) (k : sp m (PP E M K (npc, lv, .ref (q + (if c = 115 ∧ o = 43 then 8 else 22) * ix i) :: st, w))) : sp (gd (ib i n) m) (PP E M K (pc, lv, .int i :: .ref o :: st, w)) :=
  sp_gd fun hi => s_step ho (by
    show (if o = 1001 then _ else _) = _
    rw [if_neg hr.ne.2, if_pos ⟨by rcases hc with e | e | e <;> subst e; exact Or.inl (hr.ob hT); exact Or.inr (Or.inl (hr.ob hT)); exact Or.inr (Or.inr (hr.ob hT)), by rw [hr.2]; exact hi⟩, hq _ (ib_nn hi)]; rfl) k
theorem s_aaldW {a b : Nat} {v i : Int32} (ho : opAt (mCode M) pc = some ((30, a, b, v), npc)) (k : sp m (PP E M K (npc, lv, .ref (1010 + ix i) :: st, w))) : sp (gd (ib i 20) m) (PP E M K (pc, lv, .int i :: .ref 1001 :: st, w)) :=
  sp_gd fun hi => s_step ho (by show (if ib i 20 = true then some (npc, lv, Value.ref (1010 + ix i) :: st, w) else none) = _; rw [if_pos hi]) k
theorem s_lenW {a b : Nat} {v : Int32} (ho : opAt (mCode M) pc = some ((35, a, b, v), npc)) (k : sp m (PP E M K (npc, lv, .int 20 :: st, w))) : sp m (PP E M K (pc, lv, .ref 1001 :: st, w)) := s_step ho rfl k
theorem s_getW0 {b o : Nat} {v : Int32} (ho : opAt (mCode M) pc = some ((47, 0, b, v), npc)) (k : sp m (PP E M K (npc, lv, .long (zwc (o - 1010)) :: st, w))) : sp (gd (decide (1010 ≤ o ∧ o < 1030)) m) (PP E M K (pc, lv, .ref o :: st, w)) :=
  sp_gd fun hi => s_step ho (by show (if 1010 ≤ o ∧ o < 1030 then _ else _) = _; rw [if_pos (of_decide_eq_true hi)]; rfl) k
theorem s_getW1 {b o : Nat} {v : Int32} (ho : opAt (mCode M) pc = some ((47, 1, b, v), npc)) (k : sp m (PP E M K (npc, lv, .int (zwd (o - 1010)) :: st, w))) : sp (gd (decide (1010 ≤ o ∧ o < 1030)) m) (PP E M K (pc, lv, .ref o :: st, w)) :=
  sp_gd fun hi => s_step ho (by show (if 1010 ≤ o ∧ o < 1030 then _ else _) = _; rw [if_pos (of_decide_eq_true hi)]; rfl) k
theorem s_getW2 {b o : Nat} {v : Int32} (ho : opAt (mCode M) pc = some ((47, 2, b, v), npc)) (k : sp m (PP E M K (npc, lv, .int (zwm (o - 1010)) :: st, w))) : sp (gd (decide (1010 ≤ o ∧ o < 1030)) m) (PP E M K (pc, lv, .ref o :: st, w)) :=
  sp_gd fun hi => s_step ho (by show (if 1010 ≤ o ∧ o < 1030 then _ else _) = _; rw [if_pos (of_decide_eq_true hi)]; rfl) k
theorem s_cpI {a b o q lo lq : Nat} {v sp' dp n : Int32} {f : Wd → Option (α × Wd)} (ho : opAt (mCode M) pc = some ((40, a, b, v), npc)) (hT : TY w) (h1 : rw_ o 101 lo) (h2 : rw_ q 101 lq) (hs : (st.map fun v => v.category).sum ≤ 8) (k : ∀ w1, TY w1 → sp (f w1) (PP E M K (npc, lv, st, w1))) : sp (cpI w o lo sp' q lq dp n f) (PP E M K (pc, lv, .int n :: .int dp :: .ref q :: .int sp' :: .ref o :: st, w)) :=
  sp_ite (fun hc => s_step ho (by
    show (if (st.map fun v => v.category).sum ≤ 8 ∧ _ then _ else _) = _
    rw [if_pos ⟨hs, hc.1, hc.2.1, hc.2.2.1, by rw [h1.2]; exact hc.2.2.2.1, by rw [h2.2]; exact hc.2.2.2.2⟩, if_pos ⟨h1.ob hT, h2.ob hT⟩]) (k _ (hT.rI _ _))) (fun _ => sp_none)
theorem s_cpL {a b o q lo lq : Nat} {v sp' dp n : Int32} {f : Wd → Option (α × Wd)} (ho : opAt (mCode M) pc = some ((40, a, b, v), npc)) (hT : TY w) (h1 : rw_ o 102 lo) (h2 : rw_ q 102 lq) (hs : (st.map fun v => v.category).sum ≤ 8) (k : ∀ w1, TY w1 → sp (f w1) (PP E M K (npc, lv, st, w1))) : sp (cpL w o lo sp' q lq dp n f) (PP E M K (pc, lv, .int n :: .int dp :: .ref q :: .int sp' :: .ref o :: st, w)) := by
  have h3 : zobj w o 101 = false := by
    cases h : zobj w o 101 with
    | false => rfl
    | true =>
      have g1 := (zobj_iff h).2
      rw [h1.2] at g1
      cases g1
  exact sp_ite (fun hc => s_step ho (by
    show (if (st.map fun v => v.category).sum ≤ 8 ∧ _ then _ else _) = _
    rw [if_pos ⟨hs, hc.1, hc.2.1, hc.2.2.1, by rw [h1.2]; exact hc.2.2.2.1, by rw [h2.2]; exact hc.2.2.2.2⟩, if_neg (by rw [h3]; exact fun q => by cases q.1), if_pos ⟨h1.ob hT, h2.ob hT⟩]) (k _ (hT.rL _ _))) (fun _ => sp_none)
theorem s_call {n b : Nat} {v : Int32} {β : Type} {cv : β → Option Value} {mm : Option (β × Wd)} {f : β → Wd → Option (α × Wd)} (as rest : List Value) (ho : opAt (mCode M) pc = some ((39, n, b, v), npc)) (hst : st = as.reverse ++ rest) (hs : (rest.map fun v => v.category).sum ≤ 8) (hE : sp mm (fun r w1 => TY w1 ∧ E n as w (cv r) w1))
    (k : ∀ r w1, TY w1 → sp (f r w1) (PP E M K (npc, lv, (cv r).toList ++ rest, w1))) : sp (cl mm f) (PP E M K (pc, lv, st, w)) := by
  cases hm : mm with
  | none => exact sp_none
  | some q =>
    obtain ⟨r, w1⟩ := q
    obtain ⟨g1, g2⟩ := hE r w1 hm
    exact s_zst (Or.inl ⟨_, npc, ho, Or.inr ⟨rfl, as, rest, cv r, w1, hst, g2, hs, rfl⟩⟩) (k r w1 g1)
theorem s_ret {a b c d : Nat} {v : Int32} {o : α} {R0 : Option Value} (ho : opAt (mCode M) pc = some ((a, b, c, v), npc)) (hf : zfin M (a, b, c, v) st = some R0) (hT : TY w) (hK : ∀ R W, K o w R W → R = R0 ∧ W = w) : sp (some (o, w)) (PP E M K (pc, lv, st, w)) :=
  sp_some ⟨hT, fun R W h => by obtain ⟨e1, e2⟩ := hK R W h; subst e1; subst e2; exact ⟨0, _, _, _, rfl, ho, hf, rfl⟩⟩
theorem s_retZ {b c : Nat} {v : Int32} {o : α} {z : Bool} (ho : opAt (mCode M) pc = some ((42, b, c, v), npc)) (hM : mRet M = 2) (hT : TY w) (hK : ∀ R W, K o w R W → R = some (.int (bi z)) ∧ W = w) : sp (some (o, w)) (PP E M K (pc, lv, [.int (bi z)], w)) :=
  s_ret (d := 0) ho (by show (if mRet M = 1 ∨ mRet M = 2 ∧ (bi z = 0 ∨ bi z = 1) then _ else _) = _; rw [if_pos (Or.inr ⟨hM, by cases z; exact Or.inl rfl; exact Or.inr rfl⟩)]) hT hK
theorem s_retI {b c : Nat} {v x : Int32} {o : α} (ho : opAt (mCode M) pc = some ((42, b, c, v), npc)) (hM : mRet M = 1) (hT : TY w) (hK : ∀ R W, K o w R W → R = some (.int x) ∧ W = w) : sp (some (o, w)) (PP E M K (pc, lv, [.int x], w)) :=
  s_ret (d := 0) ho (by show (if mRet M = 1 ∨ _ then _ else _) = _; rw [if_pos (Or.inl hM)]) hT hK
theorem s_retL {b c : Nat} {v : Int32} {x : Int64} {o : α} (ho : opAt (mCode M) pc = some ((43, b, c, v), npc)) (hM : mRet M = 3) (hT : TY w) (hK : ∀ R W, K o w R W → R = some (.long x) ∧ W = w) : sp (some (o, w)) (PP E M K (pc, lv, [.long x], w)) :=
  s_ret (d := 0) ho (by show (if mRet M = 3 then _ else _) = _; rw [if_pos hM]) hT hK
theorem s_retV {b c : Nat} {v : Int32} {o : α} (ho : opAt (mCode M) pc = some ((41, b, c, v), npc)) (hM : mRet M = 0) (hT : TY w) (hK : ∀ R W, K o w R W → R = none ∧ W = w) : sp (some (o, w)) (PP E M K (pc, lv, [], w)) :=
  s_ret (d := 0) ho (by show (if mRet M = 0 then _ else _) = _; rw [if_pos hM]) hT hK
theorem s_retR {b c : Nat} {v : Int32} {x : Option Nat} {o : α} (ho : opAt (mCode M) pc = some ((44, b, c, v), npc)) (hM : mRet M = 4) (hT : TY w) (hK : ∀ R W, K o w R W → R = some (va_rf x) ∧ W = w) : sp (some (o, w)) (PP E M K (pc, lv, [va_rf x], w)) := by
  have h : zfin M (44, b, c, v) [va_rf x] = some (some (va_rf x)) := by
    cases x with
    | none => show (if mRet M = 4 then _ else _) = _; rw [if_pos hM]; rfl
    | some q => show (if mRet M = 4 then _ else _) = _; rw [if_pos hM]; rfl
  exact s_ret (d := 0) ho h hT hK
theorem s_back {S : Type} {h : Nat} {lvL : S → List (Nat × Value)} {s' : S} {o : α} (hs : subl (lvL s') lv) (hT : TY w) (hK : ∀ R W, K o w R W → Zfn E M (h, lvL s', [], w) R W) : sp (some (o, w)) (PP E M K (h, lv, [], w)) :=
  s_fgt (lvL s') hs (sp_some ⟨hT, hK⟩)
theorem s_loop {S : Type} {h n : Nat} {s0 : S} {body : S → Wd → Option ((S ⊕ α) × Wd)} (lvL : S → List (Nat × Value)) (hs : subl (lvL s0) lv) (hT : TY w) (hb : ∀ s w, TY w → sp (body s w) (PP E M (KL E M h lvL K) (h, lvL s, [], w))) : sp (itM body n s0 w) (PP E M K (h, lv, [], w)) := by
  refine s_fgt (lvL s0) hs ?_
  have key : ∀ (n : Nat) (s0 : S) (w : Wd), TY w → sp (itM body n s0 w) (PP E M K (h, lvL s0, [], w)) := by
    intro n
    induction n with
    | zero => intro s0 w hT; exact sp_none
    | succ n ih =>
      intro s0 w hT
      have h1 := hb s0 w hT
      unfold itM
      cases hbd : body s0 w with
      | none => exact sp_none
      | some q =>
        obtain ⟨o, w1⟩ := q
        obtain ⟨g1, g2⟩ := h1 o w1 hbd
        cases o with
        | inl s1 =>
          intro r w' e
          obtain ⟨g3, g4⟩ := ih s1 w1 g1 r w' e
          exact ⟨g3, fun R W hk => g2 R W (g4 R W hk)⟩
        | inr r1 => exact sp_some ⟨g1, fun R W hk => g2 R W hk⟩
  exact key n s0 w hT
theorem s_jn {A : Type} {J : A → Wd → Option (α × Wd)} {f : (A → Wd → Option (α × Wd)) → Option (α × Wd)} {P : α → Wd → Prop} (PJ : A → Wd → α → Wd → Prop) (hJ : ∀ a w, TY w → sp (J a w) (PJ a w)) (hf : ∀ j : A → Wd → Option (α × Wd), (∀ a w, TY w → sp (j a w) (PJ a w)) → sp (f j) P) : sp (jn J f) P := hf J hJ
theorem s_swt {x : Int32} {f : Nat → Option (α × Wd)} {g : Option (α × Wd)} {n : Nat} {P : α → Wd → Prop} (h1 : ∀ i, i < n → 0 ≤ x → ix x = i → sp (f i) P) (h2 : ¬ (0 ≤ x ∧ ix x < n) → sp g P) : sp (swt x f g n) P :=
  sp_ite (fun h => h1 _ h.2 h.1 rfl) h2
/-- conditions -/
theorem zc_eq1 {x y : Int32} (h : x = y) : zcnd 0 x y = true := decide_eq_true h
theorem zc_eq0 {x y : Int32} (h : ¬ x = y) : zcnd 0 x y = false := decide_eq_false h
theorem zc_ne1 {x y : Int32} (h : ¬ x = y) : zcnd 1 x y = true := by show (!decide (x = y)) = true; rw [decide_eq_false h]; rfl
theorem zc_ne0 {x y : Int32} (h : x = y) : zcnd 1 x y = false := by show (!decide (x = y)) = false; rw [decide_eq_true h]; rfl
theorem zc_lt1 {x y : Int32} (h : ¬ y ≤ x) : zcnd 2 x y = true := decide_eq_true (Int32.not_le.mp h)
theorem zc_lt0 {x y : Int32} (h : y ≤ x) : zcnd 2 x y = false := decide_eq_false (Int32.not_lt.mpr h)
theorem zc_ge1 {x y : Int32} (h : ¬ x < y) : zcnd 3 x y = true := decide_eq_true (Int32.not_lt.mp h)
theorem zc_ge0 {x y : Int32} (h : x < y) : zcnd 3 x y = false := decide_eq_false (Int32.not_le.mpr h)
theorem zc_gt1 {x y : Int32} (h : ¬ x ≤ y) : zcnd 4 x y = true := decide_eq_true (Int32.not_le.mp h)
theorem zc_gt0 {x y : Int32} (h : x ≤ y) : zcnd 4 x y = false := decide_eq_false (Int32.not_lt.mpr h)
theorem zc_le1 {x y : Int32} (h : ¬ y < x) : zcnd 5 x y = true := decide_eq_true (Int32.not_lt.mp h)
theorem zc_le0 {x y : Int32} (h : y < x) : zcnd 5 x y = false := decide_eq_false (Int32.not_le.mpr h)
theorem zb_eq1 {b : Bool} (h : ¬ b = true) : zcnd 0 (bi b) 0 = true := by cases b; rfl; exact absurd rfl h
theorem zb_eq0 {b : Bool} (h : b = true) : zcnd 0 (bi b) 0 = false := by subst h; rfl
theorem zb_ne1 {b : Bool} (h : b = true) : zcnd 1 (bi b) 0 = true := by subst h; rfl
theorem zb_ne0 {b : Bool} (h : ¬ b = true) : zcnd 1 (bi b) 0 = false := by cases b; rfl; exact absurd rfl h
theorem lg0 {x y : Int64} : lg_cmp x y = 0 ↔ x = y := by
  unfold lg_cmp
  constructor
  · intro h
    split at h
    · cases h
    · split at h
      · assumption
      · cases h
  · intro h
    subst h
    rw [if_neg (Int64.lt_irrefl), if_pos rfl]
theorem zl_eq1 {x y : Int64} (h : x = y) : zcnd 0 (lg_cmp x y) 0 = true := decide_eq_true (lg0.mpr h)
theorem zl_eq0 {x y : Int64} (h : ¬ x = y) : zcnd 0 (lg_cmp x y) 0 = false := decide_eq_false (fun q => h (lg0.mp q))
theorem zl_ne1 {x y : Int64} (h : ¬ x = y) : zcnd 1 (lg_cmp x y) 0 = true := zc_ne1 (fun q => h (lg0.mp q))
theorem zl_ne0 {x y : Int64} (h : x = y) : zcnd 1 (lg_cmp x y) 0 = false := zc_ne0 (lg0.mpr h)
/-- a method's doing, from its program -/
theorem ev_of {d n : Nat} {as : List Value} {cv : α → Option Value} (hM : M ∈ zMs) (hn : mNum M = n) (hz : ¬ n = 0) (hl : as.length = mArg M) (hc : (as.map fun v => v.category).sum ≤ mLoc M) (hr : zsta.contains n = true ∨ ∃ (o : Nat) (as' : List Value), as = .ref o :: as' ∧ ist o (mCls M)) (hT : TY w)
    (h : sp m (PP (Ev d) M (KR cv) (0, lv_args 0 as, [], w))) : sp m (fun r w' => TY w' ∧ Ev (d + 1) n as w (cv r) w') := fun r w' e => by
  obtain ⟨g1, g2⟩ := h r w' e
  refine ⟨g1, M, hM, hn, hz, hl, hc, ?_, g2 _ _ ⟨rfl, rfl⟩⟩
  rcases hr with q | ⟨o, as', q1, q2⟩
  · exact Or.inl q
  · exact Or.inr ⟨o, as', q1, zob hT q2⟩
end RUN
theorem subl_n {lv : List (Nat × Value)} : subl [] lv := trivial
theorem subl_c {lv l : List (Nat × Value)} {i : Nat} {v : Value} (h1 : lgt lv i = some v) (h2 : subl l lv) : subl ((i, v) :: l) lv := ⟨h1, h2⟩
section RUN2
variable {E : Evf} {M : Mth} {α : Type} {m : Option (α × Wd)} {K : α → Wd → Option Value → Wd → Prop} {pc npc : Nat} {lv : List (Nat × Value)} {st : List Value} {w : Wd}
theorem s_istoreF {a b : Nat} {v x : Int32} (lv' : List (Nat × Value)) (ho : opAt (mCode M) pc = some ((5, a, b, v), npc)) (hs : subl lv' (lst1 lv a (.int x))) (k : sp m (PP E M K (npc, lv', st, w))) : sp m (PP E M K (pc, lv, .int x :: st, w)) := s_istore ho (s_fgt lv' hs k)
theorem s_lstoreF {a b : Nat} {v : Int32} {x : Int64} (lv' : List (Nat × Value)) (ho : opAt (mCode M) pc = some ((6, a, b, v), npc)) (hs : subl lv' (lst2 lv a (.long x))) (k : sp m (PP E M K (npc, lv', st, w))) : sp m (PP E M K (pc, lv, .long x :: st, w)) := s_lstore ho (s_fgt lv' hs k)
theorem s_astoreF {a b : Nat} {v : Int32} {x : Nat} (lv' : List (Nat × Value)) (ho : opAt (mCode M) pc = some ((7, a, b, v), npc)) (hs : subl lv' (lst1 lv a (.ref x))) (k : sp m (PP E M K (npc, lv', st, w))) : sp m (PP E M K (pc, lv, .ref x :: st, w)) := s_astore ho (s_fgt lv' hs k)
theorem s_astoreRF {a b : Nat} {v : Int32} {x : Option Nat} (lv' : List (Nat × Value)) (ho : opAt (mCode M) pc = some ((7, a, b, v), npc)) (hs : subl lv' (lst1 lv a (va_rf x))) (k : sp m (PP E M K (npc, lv', st, w))) : sp m (PP E M K (pc, lv, va_rf x :: st, w)) := s_astoreR ho (s_fgt lv' hs k)
theorem s_iincF {a b : Nat} {v x : Int32} {f : Int32 → Option (α × Wd)} (lv' : Int32 → List (Nat × Value)) (ho : opAt (mCode M) pc = some ((8, a, b, v), npc)) (hl : lgt lv a = some (.int x)) (hs : ∀ y, subl (lv' y) (lst1 lv a (.int y))) (k : ∀ y : Int32, sp (f y) (PP E M K (npc, lv' y, st, w))) : sp (lt (x + v) f) (PP E M K (pc, lv, st, w)) := s_iinc ho hl (fun y _ => s_fgt (lv' y) (hs y) (k y))
theorem s_nmI {x : Int32} {f : Int32 → Option (α × Wd)} (k : ∀ y, sp (f y) (PP E M K (pc, lv, .int y :: st, w))) : sp (lt x f) (PP E M K (pc, lv, .int x :: st, w)) := k x
theorem s_nmJ {x : Int64} {f : Int64 → Option (α × Wd)} (k : ∀ y, sp (f y) (PP E M K (pc, lv, .long y :: st, w))) : sp (lt x f) (PP E M K (pc, lv, .long x :: st, w)) := k x
theorem s_cong {a b : Cfg} (h : b = a) (k : sp m (PP E M K b)) : sp m (PP E M K a) := h ▸ k
theorem s_callI {n b : Nat} {v : Int32} {mm : Option (Int32 × Wd)} {f : Int32 → Wd → Option (α × Wd)} (as rest : List Value) (ho : opAt (mCode M) pc = some ((39, n, b, v), npc)) (hst : st = as.reverse ++ rest) (hs : (rest.map fun v => v.category).sum ≤ 8) (hE : sp mm (fun r w1 => TY w1 ∧ E n as w (cvI r) w1)) (k : ∀ r w1, TY w1 → sp (f r w1) (PP E M K (npc, lv, .int r :: rest, w1))) : sp (cl mm f) (PP E M K (pc, lv, st, w)) := s_call as rest ho hst hs hE k
theorem s_callZ {n b : Nat} {v : Int32} {mm : Option (Bool × Wd)} {f : Bool → Wd → Option (α × Wd)} (as rest : List Value) (ho : opAt (mCode M) pc = some ((39, n, b, v), npc)) (hst : st = as.reverse ++ rest) (hs : (rest.map fun v => v.category).sum ≤ 8) (hE : sp mm (fun r w1 => TY w1 ∧ E n as w (cvZ r) w1)) (k : ∀ r w1, TY w1 → sp (f r w1) (PP E M K (npc, lv, .int (bi r) :: rest, w1))) : sp (cl mm f) (PP E M K (pc, lv, st, w)) := s_call as rest ho hst hs hE k
theorem s_callL {n b : Nat} {v : Int32} {mm : Option (Int64 × Wd)} {f : Int64 → Wd → Option (α × Wd)} (as rest : List Value) (ho : opAt (mCode M) pc = some ((39, n, b, v), npc)) (hst : st = as.reverse ++ rest) (hs : (rest.map fun v => v.category).sum ≤ 8) (hE : sp mm (fun r w1 => TY w1 ∧ E n as w (cvL r) w1)) (k : ∀ r w1, TY w1 → sp (f r w1) (PP E M K (npc, lv, .long r :: rest, w1))) : sp (cl mm f) (PP E M K (pc, lv, st, w)) := s_call as rest ho hst hs hE k
theorem s_callV {n b : Nat} {v : Int32} {mm : Option (Unit × Wd)} {f : Unit → Wd → Option (α × Wd)} (as rest : List Value) (ho : opAt (mCode M) pc = some ((39, n, b, v), npc)) (hst : st = as.reverse ++ rest) (hs : (rest.map fun v => v.category).sum ≤ 8) (hE : sp mm (fun r w1 => TY w1 ∧ E n as w (cvV r) w1)) (k : ∀ r w1, TY w1 → sp (f r w1) (PP E M K (npc, lv, rest, w1))) : sp (cl mm f) (PP E M K (pc, lv, st, w)) := s_call as rest ho hst hs hE k
theorem s_callR {n b : Nat} {v : Int32} {mm : Option (Option Nat × Wd)} {f : Option Nat → Wd → Option (α × Wd)} (as rest : List Value) (ho : opAt (mCode M) pc = some ((39, n, b, v), npc)) (hst : st = as.reverse ++ rest) (hs : (rest.map fun v => v.category).sum ≤ 8) (hE : sp mm (fun r w1 => TY w1 ∧ E n as w (cvR r) w1)) (k : ∀ r w1, TY w1 → sp (f r w1) (PP E M K (npc, lv, va_rf r :: rest, w1))) : sp (cl mm f) (PP E M K (pc, lv, st, w)) := s_call as rest ho hst hs hE k
theorem zsw_in {a k t : Nat} {x : Int32} (h0 : 0 ≤ x) (hk : ix x = k) (hs : (zsw a).1 = 0) (hl : k < (zsw a).2.1.length) (ht : (zsw a).2.1.getD k (zsw a).2.2 = t) : zsw3 a x = t := by
  have hx : (0 : Int) ≤ x.toInt := Int32.le_iff_toInt_le.mp h0
  have hi : x.toInt = (k : Int) := by
    have : x.toInt.toNat = k := hk
    omega
  show (if x.toInt < (zsw a).1 ∨ (zsw a).1 + ((zsw a).2.1.length : Int) ≤ x.toInt then (zsw a).2.2 else (zsw a).2.1.getD (x.toInt - (zsw a).1).toNat (zsw a).2.2) = t
  rw [hs, hi, if_neg (by omega), ← ht]
  congr 1
theorem zsw_out {a n : Nat} {x : Int32} (h : ¬ (0 ≤ x ∧ ix x < n)) (hs : (zsw a).1 = 0) (hl : (zsw a).2.1.length = n) : zsw3 a x = (zsw a).2.2 := by
  show (if x.toInt < (zsw a).1 ∨ (zsw a).1 + ((zsw a).2.1.length : Int) ≤ x.toInt then (zsw a).2.2 else (zsw a).2.1.getD (x.toInt - (zsw a).1).toNat (zsw a).2.2) = _
  rw [hs, hl, if_pos]
  by_cases h0 : 0 ≤ x
  · have hx : (0 : Int) ≤ x.toInt := Int32.le_iff_toInt_le.mp h0
    have h1 : ¬ x.toInt.toNat < n := fun q => h ⟨h0, q⟩
    omega
  · have hx : ¬ (0 : Int) ≤ x.toInt := fun q => h0 (Int32.le_iff_toInt_le.mpr q)
    omega
theorem nl_vrf {a : Nat} : va_rf (some a) = .ref a := rfl
theorem bi01 (b : Bool) : bi b = 0 ∨ bi b = 1 := by cases b; exact Or.inl rfl; exact Or.inr rfl
theorem nar_bi (b : Bool) : vp_nar .boolean (bi b) = bi b := by cases b <;> rfl
theorem s_retZx {b c : Nat} {v x : Int32} {o : α} (ho : opAt (mCode M) pc = some ((42, b, c, v), npc)) (hM : mRet M = 2) (hT : TY w) (hx : x = 0 ∨ x = 1) (hK : ∀ R W, K o w R W → R = some (.int (bi (decide (x = 1)))) ∧ W = w) : sp (some (o, w)) (PP E M K (pc, lv, [.int x], w)) := by
  have e : bi (decide (x = 1)) = x := by rcases hx with h | h <;> subst h <;> rfl
  refine s_cong (b := (pc, lv, [.int (bi (decide (x = 1)))], w)) (by rw [e]) ?_
  exact s_retZ ho hM hT hK
/-- the objects' own objects and rows -/
theorem rw_arr {t : Nat} (hr : (zsh t).1 ≥ 100) (h : t < 192) : rw_ t (zsh t).1 (zsh t).2 := ⟨h, rfl⟩
theorem s_earl {a b x : Nat} {v i : Int32} (ho : opAt (mCode M) pc = some ((30, a, b, v), npc)) (hT : TY w) (hx : ist x 9) (k : ist (74 + 8 * ix i) 5 → sp m (PP E M K (npc, lv, .ref (74 + 8 * ix i) :: st, w))) : sp (gd (ib i 6) m) (PP E M K (pc, lv, .int i :: .ref (x + 43) :: st, w)) := by
  have h0 := ist0 hx
  subst h0
  refine sp_gd fun hi => ?_
  have hi6 := ib_nn hi
  have hq := s_aald (c := 115) (n := 6) (q := 74) (o := 0 + 43) ho hT ⟨by decide, by decide +kernel⟩ (Or.inr (Or.inl rfl)) (fun j hj => hT.2.2.2.2.2.2.2.1 j hj) (k ((by decide +kernel : ∀ q, q < 6 → 74 + 8 * q < 192 ∧ (zsh (74 + 8 * q)).1 = 5) _ hi6))
  rw [hi] at hq
  exact hq
theorem s_kh {a b x : Nat} {v i : Int32} (ho : opAt (mCode M) pc = some ((30, a, b, v), npc)) (hT : TY w) (hx : ist x 9) (k : ist (122 + 22 * ix i) 1 → sp m (PP E M K (npc, lv, .ref (122 + 22 * ix i) :: st, w))) : sp (gd (ib i 2) m) (PP E M K (pc, lv, .int i :: .ref (x + 44) :: st, w)) := by
  have h0 := ist0 hx
  subst h0
  refine sp_gd fun hi => ?_
  have hi6 := ib_nn hi
  have hq := s_aald (c := 111) (n := 2) (q := 122) (o := 0 + 44) ho hT ⟨by decide, by decide +kernel⟩ (Or.inl rfl) (fun j hj => hT.2.2.2.2.2.2.2.2.1 j hj) (k ((by decide +kernel : ∀ q, q < 2 → 122 + 22 * q < 192 ∧ (zsh (122 + 22 * q)).1 = 1) _ hi6))
  rw [hi] at hq
  exact hq
theorem s_kr {a b x : Nat} {v i : Int32} (ho : opAt (mCode M) pc = some ((30, a, b, v), npc)) (hT : TY w) (hx : ist x 9) (k : ist (132 + 22 * ix i) 5 → sp m (PP E M K (npc, lv, .ref (132 + 22 * ix i) :: st, w))) : sp (gd (ib i 2) m) (PP E M K (pc, lv, .int i :: .ref (x + 45) :: st, w)) := by
  have h0 := ist0 hx
  subst h0
  refine sp_gd fun hi => ?_
  have hi6 := ib_nn hi
  have hq := s_aald (c := 115) (n := 2) (q := 132) (o := 0 + 45) ho hT ⟨by decide, by decide +kernel⟩ (Or.inr (Or.inl rfl)) (fun j hj => hT.2.2.2.2.2.2.2.2.2.1 j hj) (k ((by decide +kernel : ∀ q, q < 2 → 132 + 22 * q < 192 ∧ (zsh (132 + 22 * q)).1 = 5) _ hi6))
  rw [hi] at hq
  exact hq
theorem s_ks {a b x : Nat} {v i : Int32} (ho : opAt (mCode M) pc = some ((30, a, b, v), npc)) (hT : TY w) (hx : ist x 9) (k : ist (140 + 22 * ix i) 6 → sp m (PP E M K (npc, lv, .ref (140 + 22 * ix i) :: st, w))) : sp (gd (ib i 2) m) (PP E M K (pc, lv, .int i :: .ref (x + 46) :: st, w)) := by
  have h0 := ist0 hx
  subst h0
  refine sp_gd fun hi => ?_
  have hi6 := ib_nn hi
  have hq := s_aald (c := 116) (n := 2) (q := 140) (o := 0 + 46) ho hT ⟨by decide, by decide +kernel⟩ (Or.inr (Or.inr rfl)) (fun j hj => hT.2.2.2.2.2.2.2.2.2.2 j hj) (k ((by decide +kernel : ∀ q, q < 2 → 140 + 22 * q < 192 ∧ (zsh (140 + 22 * q)).1 = 6) _ hi6))
  rw [hi] at hq
  exact hq
end RUN2
