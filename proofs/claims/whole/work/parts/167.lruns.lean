/-! constructors: runs by lists -/
def lin : List Row → Bool
  | [] => true
  | x :: l => Nat.blt x.1 x.2.1 && (match l with
    | [] => true
    | y :: _ => Nat.beq x.2.1 y.1 && lin l)
def dropTo : List Row → Nat → List Row
  | [], _ => []
  | x :: l, t => bif Nat.beq x.1 t then x :: l else dropTo l t
def lrec (as : List Value) (l : LW) (c : Nat) : Bool := match as with
  | .ref o :: _ => lobj l o c
  | _ => false
theorem lrec_t {as : List Value} {l : LW} {c : Nat} (h : lrec as l c = true) : ∃ o as', as = .ref o :: as' ∧ lobj l o c = true := by
  cases as with
  | nil => cases h
  | cons a as =>
    cases a with
    | ref o => exact ⟨o, as, rfl, h⟩
    | _ => cases h
def hd0 (l : List Row) : Bool := match l with
  | [] => true
  | x :: _ => Nat.beq x.1 0
theorem lin_t {x : Row} {l : List Row} (h : lin (x :: l) = true) : lin l = true ∧ x.1 < x.2.1 ∧ ∀ y l', l = y :: l' → x.2.1 = y.1 := by
  unfold lin at h
  rw [Bool.and_eq_true] at h
  obtain ⟨h1, h2⟩ := h
  have hlt : x.1 < x.2.1 := by simpa [Nat.blt_eq] using h1
  cases l with
  | nil => exact ⟨rfl, hlt, fun y l' e => by cases e⟩
  | cons y l' =>
    dsimp only at h2
    rw [Bool.and_eq_true] at h2
    exact ⟨h2.2, hlt, fun z l'' e => by cases e; exact beq_t h2.1⟩
theorem lin_gt {x : Row} : ∀ {l : List Row}, lin (x :: l) = true → ∀ y ∈ l, x.1 < y.1 := by
  intro l
  induction l generalizing x with
  | nil => intro _ y hy; cases hy
  | cons z l ih =>
    intro h y hy
    obtain ⟨h1, h2, h3⟩ := lin_t h
    have e := h3 z l rfl
    rcases List.mem_cons.mp hy with q | q
    · rw [q]; omega
    · have := ih h1 y q
      omega
theorem opAt_suf {x : Row} {rest : List Row} : ∀ (pre : List Row), lin (pre ++ x :: rest) = true → opAt (pre ++ x :: rest) x.1 = some (x.2.2, x.2.1) := by
  intro pre
  induction pre with
  | nil =>
    intro _
    show (bif Nat.beq x.1 x.1 then _ else _) = _
    rw [show Nat.beq x.1 x.1 = true from Nat.beq_refl _]
    rfl
  | cons y pre ih =>
    intro h
    have h1 := lin_t (x := y) (l := pre ++ x :: rest) h
    have h2 := lin_gt (x := y) (l := pre ++ x :: rest) h x (List.mem_append_right _ List.mem_cons_self)
    show (bif Nat.beq y.1 x.1 then _ else opAt (pre ++ x :: rest) x.1) = _
    have e : Nat.beq y.1 x.1 = false := by
      cases q : Nat.beq y.1 x.1 with
      | false => rfl
      | true => have := beq_t q; omega
    rw [e]
    exact ih h1.1
theorem dropTo_ok : ∀ (l : List Row) (t : Nat), (∃ pre, l = pre ++ dropTo l t) ∧ ∀ x r, dropTo l t = x :: r → x.1 = t := by
  intro l
  induction l with
  | nil => intro t; exact ⟨⟨[], rfl⟩, fun x r h => by cases h⟩
  | cons y l ih =>
    intro t
    obtain ⟨⟨pre, h1⟩, h2⟩ := ih t
    have e : dropTo (y :: l) t = bif Nat.beq y.1 t then y :: l else dropTo l t := rfl
    cases q : Nat.beq y.1 t with
    | true =>
      rw [q] at e
      exact ⟨⟨[], by rw [e]; rfl⟩, fun x r h => by rw [e] at h; cases h; exact beq_t q⟩
    | false =>
      rw [q] at e
      exact ⟨⟨y :: pre, by rw [e]; show y :: l = y :: (pre ++ dropTo l t); rw [← h1]⟩, fun x r h => h2 x r (by rw [← h, e]; rfl)⟩
def mrun (cal : Nat → List Value → LW → Option (Option Value × LW)) (M : Mth) : Nat → List Row → List (Nat × Value) → List Value → Nat → LG Int32 → LG Int64 → LG (Option Nat) → Option (Option Value × LW)
  | 0, _, _, _, _, _, _, _ => none
  | _ + 1, [], _, _, _, _, _, _ => none
  | f + 1, x :: rest, lv, st, n, i, g, r =>
    bif Nat.beq (mNum M) 6 && Nat.beq x.1 73 then (match lfill lv st (n, i, g, r) with
      | some (lv', n', i', g', r') => mrun cal M f (dropTo (mCode M) 93) lv' [] n' i' g' r'
      | none => none)
    else bif Nat.beq x.2.2.1 39 then (match zMs[x.2.2.2.1]? with
      | none => none
      | some M' => match cal x.2.2.2.1 (st.take (mArg M')).reverse (n, i, g, r) with
        | some (res, n', i', g', r') => bif decide (((st.drop (mArg M')).map fun v => v.category).sum ≤ 8) then mrun cal M f rest lv (res.toList ++ st.drop (mArg M')) n' i' g' r' else none
        | none => none)
    else bif Nat.beq x.2.2.1 41 then (match st with
      | [] => bif Nat.beq (mRet M) 0 then some (none, n, i, g, r) else none
      | _ => none)
    else match mst M x.2.2.1 x.2.2.2.1 x.2.2.2.2.1 x.2.2.2.2.2 lv st n i g r with
      | some (none, lv', st', n', i', g', r') => mrun cal M f rest lv' st' n' i' g' r'
      | some (some t, lv', st', n', i', g', r') => mrun cal M f (dropTo (mCode M) t) lv' st' n' i' g' r'
      | none => none
def mcall : Nat → Nat → List Value → LW → Option (Option Value × LW)
  | 0 => fun _ _ _ => none
  | d + 1 => fun n as l => match zMs[n]? with
    | none => none
    | some M => bif Nat.beq (mNum M) n && (!Nat.beq n 0 && (Nat.beq as.length (mArg M) && (decide ((as.map fun v => v.category).sum ≤ mLoc M) && (lrec as l (mCls M) && (lin (mCode M) && hd0 (mCode M)))))) then mrun (mcall d) M 3000 (mCode M) (lv_args 0 as) [] l.1 l.2.1 l.2.2.1 l.2.2.2 else none
theorem mrun_ok {cal : Nat → List Value → LW → Option (Option Value × LW)} {E : Evf} {M : Mth} {w0 : Wd} (hM : mNum M = 6 → M = M6) (hlin : lin (mCode M) = true) (hc : ∀ n as l r l', cal n as l = some (r, l') → E n as (toW w0 l) r (toW w0 l')) : ∀ (f : Nat) (rows : List Row) (lv : List (Nat × Value)) (st : List Value) (n : Nat) (i : LG Int32) (g : LG Int64) (r : LG (Option Nat)) (res : Option Value) (l' : LW), mrun cal M f rows lv st n i g r = some (res, l') → (∃ pre, mCode M = pre ++ rows) → ∀ pc, (∀ x rest, rows = x :: rest → x.1 = pc) → Zfn E M (pc, lv, st, toW w0 (n, i, g, r)) res (toW w0 l') := by
  intro f
  induction f with
  | zero => intro rows lv st n i g r res l' h; cases h
  | succ f ih =>
    intro rows lv st n i g r res l' h hpre pc hpc
    obtain ⟨pre, hpre⟩ := hpre
    cases rows with
    | nil => cases h
    | cons x rest =>
      have epc := hpc x rest rfl
      have ho : opAt (mCode M) pc = some (x.2.2, x.2.1) := by
        rw [← epc, hpre]
        exact opAt_suf pre (by rw [← hpre]; exact hlin)
      have hrest : ∃ pre', mCode M = pre' ++ rest := ⟨pre ++ [x], by rw [hpre, List.append_assoc]; rfl⟩
      have hnpc : ∀ y r', rest = y :: r' → y.1 = x.2.1 := by
        have key : ∀ p : List Row, lin (p ++ x :: rest) = true → lin (x :: rest) = true := by
          intro p
          induction p with
          | nil => exact id
          | cons z p ihp => intro h; exact ihp (lin_t (x := z) (l := p ++ x :: rest) h).1
        intro y r' e
        exact ((lin_t (key pre (by rw [← hpre]; exact hlin))).2.2 y r' e).symm
      unfold mrun at h
      cases h6 : (Nat.beq (mNum M) 6 && Nat.beq x.1 73) with
      | true =>
        rw [h6] at h
        simp only [cond_true] at h
        rw [Bool.and_eq_true] at h6
        have e6 := hM (beq_t h6.1)
        have e73 := beq_t h6.2
        split at h
        · rename_i lv' n' i' g' r' hq
          obtain ⟨d1, d2⟩ := dropTo_ok (mCode M) 93
          have := ih _ _ _ _ _ _ _ _ _ h d1 93 d2
          rw [← epc, e73]
          refine PT.fin ?_ this
          rw [e6]
          exact lfill_ok hq
        · cases h
      | false =>
        rw [h6] at h
        simp only [cond_false] at h
        cases h39 : Nat.beq x.2.2.1 39 with
        | true =>
          rw [h39] at h
          simp only [cond_true] at h
          split at h
          · cases h
          · rename_i M' hM'
            split at h
            · rename_i res1 n' i' g' r' hcl
              obtain ⟨hs, h⟩ := bif_some h
              have gE := hc _ _ _ _ _ hcl
              refine PT.fin (PT.z (Or.inl ⟨x.2.2, x.2.1, ho, Or.inr ⟨beq_t h39, (st.take (mArg M')).reverse, st.drop (mArg M'), res1, _, ?_, gE, of_decide_eq_true hs, rfl⟩⟩) PT.refl) (ih _ _ _ _ _ _ _ _ _ h hrest _ hnpc)
              show st = (st.take (mArg M')).reverse.reverse ++ st.drop (mArg M')
              rw [List.reverse_reverse, List.take_append_drop]
            · cases h
        | false =>
          rw [h39] at h
          simp only [cond_false] at h
          cases h41 : Nat.beq x.2.2.1 41 with
          | true =>
            rw [h41] at h
            simp only [cond_true] at h
            split at h
            · obtain ⟨hr, h⟩ := bif_some h
              cases h
              refine ⟨0, _, x.2.2, x.2.1, rfl, ho, ?_, rfl⟩
              have e41 := beq_t h41
              have er := beq_t hr
              obtain ⟨x1, x2, t, a, b, v⟩ := x
              dsimp only at e41
              subst e41
              show (if mRet M = 0 then some none else none) = some none
              rw [if_pos er]
            · cases h
          | false =>
            rw [h41] at h
            simp only [cond_false] at h
            split at h
            · rename_i lv' st' n' i' g' r' hq
              exact PT.fin (PT.st ho (mst_ok hq) PT.refl) (ih _ _ _ _ _ _ _ _ _ h hrest _ hnpc)
            · rename_i t lv' st' n' i' g' r' hq
              obtain ⟨d1, d2⟩ := dropTo_ok (mCode M) t
              exact PT.fin (PT.st ho (mst_ok hq) PT.refl) (ih _ _ _ _ _ _ _ _ _ h d1 t d2)
            · cases h
theorem mcall_ok {w0 : Wd} : ∀ (d n : Nat) (as : List Value) (l : LW) (r : Option Value) (l' : LW), mcall d n as l = some (r, l') → Ev d n as (toW w0 l) r (toW w0 l') := by
  intro d
  induction d with
  | zero => intro n as l r l' h; cases h
  | succ d ih =>
    intro n as l r l' h
    unfold mcall at h
    split at h
    · cases h
    · rename_i M hM
      obtain ⟨hc, h⟩ := bif_some h
      rw [Bool.and_eq_true, Bool.and_eq_true, Bool.and_eq_true, Bool.and_eq_true, Bool.and_eq_true, Bool.and_eq_true] at hc
      obtain ⟨c1, c2, c3, c4, c5, c6, c7⟩ := hc
      have c1 := beq_t c1
      have c3 := beq_t c3
      have c4 := of_decide_eq_true c4
      have hmem : M ∈ zMs := List.mem_of_getElem? hM
      have h6 : mNum M = 6 → M = M6 := fun e => by
        rw [c1] at e
        rw [e] at hM
        have : zMs[6]? = some M6 := rfl
        rw [this] at hM
        exact (Option.some.inj hM).symm
      have c2 : ¬ n = 0 := fun z => by
        subst z
        cases c2
      have h0 : ∀ x rest, mCode M = x :: rest → x.1 = 0 := fun x rest e => by
        rw [e] at c7
        exact beq_t c7
      refine ⟨M, hmem, c1, c2, c3, c4, Or.inr (lrec_t c5), mrun_ok h6 c6 (fun n as l r l' q => ih n as l r l' q) _ _ _ _ _ _ _ _ _ _ h ⟨[], rfl⟩ 0 h0⟩
