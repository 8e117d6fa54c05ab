/-! the reference's next TOKEN -/
theorem tp_jnP {A α : Type} {J : A → Wd → Option (α × Wd)} {f : (A → Wd → Option (α × Wd)) → Option (α × Wd)} {Q : α → Wd → Prop} (P : A → Wd → Prop) (k : ∀ j : A → Wd → Option (α × Wd), (∀ a w', P a w' → tp (j a w') Q) → tp (f j) Q) (hJ : ∀ a w', P a w' → tp (J a w') Q) : tp (jn J f) Q := k J hJ
/-- the reference's text: n bytes b, the most told lim -/
def MB (n : Nat) (b : Nat → Nat) (lim : Nat) (w : Wd) : Prop := n ≤ 940 ∧ lim ≤ 940 ∧ wI w 166 3 = nI n ∧ wI w 166 5 = nI lim ∧ ∀ j, j < n → wI w 167 j &&& 255 = nI (b j) ∧ b j < 256
/-- a TOKEN, as the reference holds it -/
def kvM (t : Nat × List Nat) (k v : Int32) (c : Int64) : Prop := (t.1 = 1 ∧ k = 1 ∧ c = lN (en8 t.2)) ∨ (t.1 = 2 ∧ k = 2 ∧ v = nI (t.2.headD 0)) ∨ (t.1 = 3 ∧ k = 3 ∧ v = nI (t.2.headD 0)) ∨ (t.1 = 4 ∧ k = 4)
/-- what next leaves, the place being p -/
def NX (n : Nat) (b : Nat → Nat) (lim p : Nat) (w : Wd) : Prop := (skB n b p < min n lim ∧ wI w 166 12 = nI (skB n b p) ∧ wI w 166 4 = nI (endB n b (skB n b p)) ∧ kvM (tokB n b (skB n b p)) (wI w 166 11) (wI w 166 14) (wL w 166 17)) ∨ (min n lim ≤ skB n b p ∧ wI w 166 12 = nI (min n lim) ∧ wI w 166 4 = nI (skB n b p) ∧ wI w 166 11 = if lim < n then 4 else 0)
def nxF (j : Nat) : Prop := j = 4 ∨ (11 ≤ j ∧ j ≤ 14)
section NE
variable {n lim : Nat} {b : Nat → Nat} {w w' : Wd}
theorem MB.fm (h : MB n b lim w) {P : Nat → Prop} (hF : Fm P w w') (hK : Kp (fun q => q = 166) w w') (h3 : ¬ P 3) (h5 : ¬ P 5) : MB n b lim w' := by
  obtain ⟨a1, a2, a3, a4, a5⟩ := h
  refine ⟨a1, a2, by rw [hF 3 h3]; exact a3, by rw [hF 5 h5]; exact a4, fun j hj => ?_⟩
  rw [hK.I (by decide)]
  exact a5 j hj
theorem y_peek (h : MB n b lim w) {p : Nat} (e4 : wI w 166 4 = nI p) (hp : p ≤ n) : sh_192 166 w = some (if p < n then nI (b p) else -1, w) := by
  obtain ⟨a1, a2, a3, a4, a5⟩ := h
  unfold sh_192
  rw [e4, a3]
  by_cases q : p < n
  · rw [if_pos (nlt q (by omega)), if_pos q, gd_nI (by omega) (by decide), ix_nI (by omega), show wI w (166 + 1) p &&& 255 = nI (b p) from (a5 p q).1]
  · rw [if_neg (nnlt (by omega) (by omega)), if_neg q]
theorem y_small {c : Nat} (hc : c < 256) : sh_193 (nI c) w = some (alB c, w) := x_letter hc
theorem y_digit {c : Nat} (hc : c < 256) : sh_194 (nI c) w = some (dgB c, w) := by
  unfold sh_194 lt dgB
  by_cases h1 : 48 ≤ c
  · rw [if_pos (show (48 : Int32) ≤ nI c from nle (a := 48) h1 (by omega)), decide_eq_true h1, Bool.true_and]
    by_cases h2 : c ≤ 57
    · rw [if_pos (show nI c ≤ 57 from nle (b := 57) h2 (by omega)), decide_eq_true h2]
    · rw [if_neg (show ¬ nI c ≤ 57 from nnle (b := 57) (by omega) (by omega)), decide_eq_false h2]
  · rw [if_neg (show ¬ (48 : Int32) ≤ nI c from nnle (a := 48) (by omega) (by omega)), decide_eq_false h1]; rfl
theorem y_small1 : sh_193 (-1) w = some (false, w) := rfl
theorem y_digit1 : sh_194 (-1) w = some (false, w) := rfl
theorem cLet_pos {p : Nat} (h : alB (b p) = true) (k : Nat) : 1 ≤ cLet b p (k + 1) := by
  induction k with
  | zero =>
    show 1 ≤ 0 + (if alB (b (p + 0)) = true then 1 else 0)
    rw [Nat.add_zero, if_pos h]; omega
  | succ k ih =>
    show 1 ≤ cLet b p (k + 1) + _
    omega
theorem cLet_lt {p : Nat} (h : ¬ alB (b p) = true) (k : Nat) : cLet b p (k + 1) < k + 1 := by
  induction k with
  | zero =>
    show 0 + (if alB (b (p + 0)) = true then 1 else 0) < 1
    rw [Nat.add_zero, if_neg h]; omega
  | succ k ih =>
    show cLet b p (k + 1) + (if alB (b (p + (k + 1))) = true then 1 else 0) < k + 1 + 1
    split <;> omega
theorem en8_app (l : List Nat) (x : Nat) : en8 (l ++ [x]) = en8 l * 256 + (x + 96) := by
  unfold en8
  rw [List.foldl_append]; rfl
theorem en8_lt {p : Nat} : ∀ k, (∀ i, i < k → 97 ≤ b (p + i) ∧ b (p + i) < 256) → en8 (lettL b p k) < 256 ^ k := by
  intro k
  induction k with
  | zero => intro _; show 0 < 1; omega
  | succ k ih =>
    intro h
    have := ih (fun i hi => h i (by omega))
    have := h k (by omega)
    show en8 (lettL b p k ++ [b (p + k) - 96]) < _
    rw [en8_app, Nat.pow_succ]
    omega
theorem l_or {x c : Nat} (hx : x < 2 ^ 48) (hc : c < 256) : (lN x <<< ((8 : Int32).toInt64 &&& 63)) ||| lN c = lN (x * 256 + c) := by
  have e8 : ((8 : Int32).toInt64 &&& 63) = (8 : Int64) := by decide
  rw [e8]
  apply Int64.toBitVec_inj.mp
  rw [Int64.toBitVec_or, Int64.toBitVec_shiftLeft]
  show (BitVec.ofNat 64 x <<< (BitVec.smod (8 : BitVec 64) 64)) ||| BitVec.ofNat 64 c = BitVec.ofNat 64 (x * 256 + c)
  rw [show BitVec.smod (8 : BitVec 64) 64 = 8 by decide, BitVec.shiftLeft_eq']
  apply BitVec.eq_of_toNat_eq
  rw [BitVec.toNat_or, BitVec.toNat_shiftLeft, BitVec.toNat_ofNat, BitVec.toNat_ofNat, BitVec.toNat_ofNat, Nat.mod_eq_of_lt (show x < 2 ^ 64 by omega), Nat.mod_eq_of_lt (show c < 2 ^ 64 by omega), Nat.mod_eq_of_lt (show x * 256 + c < 2 ^ 64 by omega)]
  show (x <<< 8) % 2 ^ 64 ||| c = _
  rw [Nat.shiftLeft_eq, Nat.mod_eq_of_lt (show x * 2 ^ 8 < 2 ^ 64 by omega), ← Nat.shiftLeft_eq, ← Nat.shiftLeft_add_eq_or_of_lt (show c < 2 ^ 8 by omega), Nat.shiftLeft_eq]
end NE
