/-! TOKENS of a text: n bytes b -/
def alB (c : Nat) : Bool := decide (97 ≤ c) && decide (c ≤ 122)
def dgB (c : Nat) : Bool := decide (48 ≤ c) && decide (c ≤ 57)
def goB (c : Nat) : Bool := alB c || dgB c
def blB (c : Nat) : Bool := decide (c = 32) || decide (c = 10)
def sgB (c : Nat) : Bool := decide (59 ≤ c) && decide (c ≤ 62) || (decide (c = 40) || decide (c = 41))
def ffk (P : Nat → Bool) : Nat → Nat → Nat
  | 0, p => p
  | k + 1, p => if P p = true then ffk P k (p + 1) else p
/-- the first place from p on that P leaves, n at most -/
def ff (P : Nat → Bool) (n p : Nat) : Nat := ffk P (n - p) p
theorem ff_t {P : Nat → Bool} {n p : Nat} (h : p < n) (hp : P p = true) : ff P n p = ff P n (p + 1) := by
  unfold ff
  rw [show n - p = (n - (p + 1)) + 1 by omega]
  exact if_pos hp
theorem ff_f {P : Nat → Bool} {n p : Nat} (hp : P p = false) : ff P n p = p := by
  unfold ff
  cases n - p with
  | zero => rfl
  | succ k => exact if_neg (by rw [hp]; decide)
theorem ff_n {P : Nat → Bool} {n p : Nat} (h : n ≤ p) : ff P n p = p := by
  unfold ff
  rw [show n - p = 0 by omega]; rfl
theorem ff_ge {P : Nat → Bool} {n : Nat} (k : Nat) : ∀ p, n ≤ p + k → p ≤ ff P n p ∧ (p ≤ n → ff P n p ≤ n) ∧ (ff P n p < n → P (ff P n p) = false) ∧ ∀ x, p ≤ x → x < ff P n p → P x = true := by
  induction k with
  | zero =>
    intro p h
    rw [ff_n (by omega)]
    exact ⟨Nat.le_refl _, fun z => z, fun z => by omega, fun x h1 h2 => by omega⟩
  | succ k ih =>
    intro p h
    by_cases hn : p < n
    · cases hp : P p with
      | false =>
        rw [ff_f hp]
        exact ⟨Nat.le_refl _, fun z => z, fun z => hp, fun x h1 h2 => by omega⟩
      | true =>
        rw [ff_t hn hp]
        obtain ⟨a1, a2, a3, a4⟩ := ih (p + 1) (by omega)
        refine ⟨by omega, fun _ => a2 (by omega), a3, fun x h1 h2 => ?_⟩
        by_cases q : x = p
        · rw [q]; exact hp
        · exact a4 x (by omega) h2
    · rw [ff_n (by omega)]
      exact ⟨Nat.le_refl _, fun z => z, fun z => by omega, fun x h1 h2 => by omega⟩
theorem ff_sp (P : Nat → Bool) (n p : Nat) : p ≤ ff P n p ∧ (p ≤ n → ff P n p ≤ n) ∧ (ff P n p < n → P (ff P n p) = false) ∧ ∀ x, p ≤ x → x < ff P n p → P x = true := ff_ge n p (by omega)
section TK
variable (n : Nat) (b : Nat → Nat)
def skB (p : Nat) : Nat := ff (fun i => blB (b i)) n p
def reB (p : Nat) : Nat := ff (fun i => goB (b i)) n p
def lettL (p : Nat) : Nat → List Nat
  | 0 => []
  | k + 1 => lettL p k ++ [b (p + k) - 96]
def numV (p : Nat) : Nat → Nat
  | 0 => 0
  | k + 1 => numV p k * 10 + (b (p + k) - 48)
def cLet (p : Nat) : Nat → Nat
  | 0 => 0
  | k + 1 => cLet p k + if alB (b (p + k)) = true then 1 else 0
/-- the TOKEN that begins at p: 1 WORD, 2 NUMBER, 3 sign, 4 none -/
def tokB (p : Nat) : Nat × List Nat :=
  if goB (b p) = true then
    (if cLet b p (reB n b p - p) = reB n b p - p ∧ reB n b p - p ≤ 7 then (1, lettL b p (reB n b p - p))
     else if cLet b p (reB n b p - p) = 0 ∧ reB n b p - p ≤ 3 then (2, [numV b p (reB n b p - p)]) else (4, []))
  else if sgB (b p) = true then (3, [b p]) else (4, [])
def endB (p : Nat) : Nat := if goB (b p) = true then reB n b p else p + 1
def stB : Nat → Nat
  | 0 => skB n b 0
  | i + 1 => skB n b (endB n b (stB i))
/-- m TOKENS begin ahead of r -/
def TM (r m : Nat) : Prop := (∀ i, i < m → stB n b i < r) ∧ r ≤ stB n b m
end TK
def wdK (l : List Nat) (k : Int32) (v : Int64) : Prop := (k = 1 ∧ v = lN (en5 l) ∧ ∀ i, i < 20 → ¬ zwc i = lN (en5 l)) ∨ ∃ i, i < 20 ∧ k = 2 ∧ v = (nI i).toInt64 ∧ zwc i = lN (en5 l)
/-- a TOKEN, as the class holds it -/
def kvX (t : Nat × List Nat) (k : Int32) (v : Int64) : Prop := (t.1 = 1 ∧ wdK t.2 k v) ∨ (t.1 = 2 ∧ k = 3 ∧ v = (nI (t.2.headD 0)).toInt64) ∨ (t.1 = 3 ∧ k = 4 ∧ v = (nI (t.2.headD 0)).toInt64) ∨ (t.1 = 4 ∧ k = 5)
def XKt (n : Nat) (b : Nat → Nat) (m : Nat) (w : Wd) : Prop := wI w 1 5 = nI m ∧ ∀ i, i < m → wI w 3 i = nI (stB n b i) ∧ kvX (tokB n b (stB n b i)) (wI w 4 i) (wL w 5 i)
section TK2
variable {n : Nat} {b : Nat → Nat} {w : Wd}
theorem tp_q {α : Type} {m : Option (α × Wd)} {a : α} {w1 : Wd} (h : tp m (fun v w' => v = a ∧ w' = w1)) : m = some (a, w1) := by
  obtain ⟨r, w', e, h1, h2⟩ := h
  rw [e, h1, h2]
theorem goB_nb {c : Nat} (h : goB c = true) : blB c = false := by
  unfold goB alB dgB at h
  unfold blB
  simp at h ⊢
  omega
theorem endB_gt {p : Nat} (hp : p < n) : p < endB n b p ∧ endB n b p ≤ n := by
  unfold endB
  by_cases h : goB (b p) = true
  · rw [if_pos h]
    unfold reB
    rw [ff_t hp h]
    obtain ⟨h1, h2, -⟩ := ff_sp (fun i => goB (b i)) n (p + 1)
    exact ⟨by omega, h2 (by omega)⟩
  · rw [if_neg h]; omega
theorem x_letter {c : Nat} (hc : c < 256) : sh_23 (nI c) w = some (alB c, w) := by
  unfold sh_23 lt alB
  by_cases h1 : 97 ≤ c
  · rw [if_pos (show (97 : Int32) ≤ nI c from nle (a := 97) h1 (by omega)), decide_eq_true h1, Bool.true_and]
    by_cases h2 : c ≤ 122
    · rw [if_pos (show nI c ≤ 122 from nle (b := 122) h2 (by omega)), decide_eq_true h2]
    · rw [if_neg (show ¬ nI c ≤ 122 from nnle (b := 122) (by omega) (by omega)), decide_eq_false h2]
  · rw [if_neg (show ¬ (97 : Int32) ≤ nI c from nnle (a := 97) (by omega) (by omega)), decide_eq_false h1]; rfl
theorem x_goesOn {c : Nat} (hc : c < 256) : sh_22 (nI c) w = some (goB c, w) := by
  unfold sh_22
  rw [cl_e (x_letter hc)]
  unfold lt goB dgB
  cases alB c with
  | true => rfl
  | false =>
    show some _ = _
    rw [if_neg (by decide), Bool.false_or]
    by_cases h1 : 48 ≤ c
    · rw [if_pos (show (48 : Int32) ≤ nI c from nle (a := 48) h1 (by omega)), decide_eq_true h1, Bool.true_and]
      by_cases h2 : c ≤ 57
      · rw [if_pos (show nI c ≤ 57 from nle (b := 57) h2 (by omega)), decide_eq_true h2]
      · rw [if_neg (show ¬ nI c ≤ 57 from nnle (b := 57) (by omega) (by omega)), decide_eq_false h2]
    · rw [if_neg (show ¬ (48 : Int32) ≤ nI c from nnle (a := 48) (by omega) (by omega)), decide_eq_false h1]; rfl
theorem x_byteAt (h : XT n b w) {p : Nat} (hp : p < n) : sh_21 1 (nI p) w = some (nI (b p), w) ∧ b p < 256 := by
  obtain ⟨hn, e1, hb⟩ := h
  obtain ⟨e2, h2⟩ := hb p hp
  refine ⟨?_, h2⟩
  unfold sh_21
  rw [e1, if_pos (n0le (by omega)), if_pos (nlt hp (by omega)), if_pos (show nI p < 940 from nlt (b := 940) (by omega) (by omega)), gd_nI (by omega) (by decide), ix_nI (by omega), show wI w (1 + 1) p = nI (b p) from e2]
theorem x_endOfRun (h : XT n b w) {p : Nat} (hp : p < n) (hg : goB (b p) = true) : sh_24 1 (nI p) w = some (nI (reB n b p), w) := by
  refine tp_q ?_
  unfold sh_24
  rw [nI_s]
  refine tp_lt ?_
  refine tp_it (fun j s w' => w' = w ∧ s = nI (p + 1 + j) ∧ p + 1 + j ≤ n ∧ reB n b p = reB n b (p + 1 + j)) n (by have := h.1; omega) ⟨rfl, rfl, by omega, ff_t hp hg⟩ (fun j s w' hI => ?_)
  obtain ⟨ew, es, hj, er⟩ := hI
  subst es
  rw [ew, h.2.1]
  have hn := h.1
  refine tp_ite (fun z => ?_) (fun z => ?_)
  · have hj2 := (nlt_i (by omega) (by omega)).mp z
    obtain ⟨e1, h1⟩ := x_byteAt h hj2
    refine tp_ce e1 (tp_ce (x_goesOn h1) (tp_ite (fun q => ?_) (fun q => ?_)))
    · rw [nI_s]
      exact tp_lt (tp_on ⟨by omega, rfl, by rw [Nat.add_assoc], by omega, er.trans (ff_t hj2 q)⟩)
    · refine tp_out ⟨?_, rfl⟩
      rw [er]; unfold reB; rw [ff_f (by simpa using q)]
  · have hj2 : p + 1 + j = n := by
      by_cases q : p + 1 + j < n
      · exact absurd (nlt q (by omega)) z
      · omega
    refine tp_out ⟨?_, rfl⟩
    rw [er]; unfold reB; rw [ff_n (by omega)]
end TK2
