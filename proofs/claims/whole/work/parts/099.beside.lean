/-! the TUFT a STEP on -/
def beW (W H t dir : Nat) : Option Nat :=
  if dir = 0 then (if 1 ≤ t / 12 ∧ t / 12 - 1 < H ∧ t % 12 < W then some (t - 12) else none)
  else if dir = 1 then (if t % 12 + 1 < W ∧ t / 12 < H then some (t + 1) else none)
  else if dir = 2 then (if t % 12 < W ∧ t / 12 + 1 < H then some (t + 12) else none)
  else (if 1 ≤ t % 12 ∧ t % 12 - 1 < W ∧ t / 12 < H then some (t - 1) else none)
def beN (S : Nat → Int32) (t dir : Nat) : Option Nat := beW (ix (S 0)) (ix (S 1)) t dir
theorem nm1 (a : Nat) : nI a + -1 = if a = 0 then -1 else nI (a - 1) := by
  by_cases h : a = 0
  · subst h; rfl
  · rw [if_neg h, n_dec (by omega)]
theorem dxy : ∀ dir, dir < 4 → (if nI dir = 1 then (1 : Int32) else if nI dir = 3 then -1 else 0) = (if dir = 1 then 1 else if dir = 3 then -1 else 0) ∧ (if nI dir = 2 then (1 : Int32) else if nI dir = 0 then -1 else 0) = (if dir = 2 then 1 else if dir = 0 then -1 else 0) := by decide
theorem m1_n0 : ¬ (0 : Int32) ≤ -1 := by decide
section BE
variable {S : Nat → Int32} {w : Wd} {h o : Nat}
theorem y_besideOf {W H t dir : Nat} (hW : W ≤ 12) (hH : H ≤ 12) (ht : t < 144) (hd : dir < 4) : sh_207 (nI t) (nI dir) (nI W) (nI H) w = some (eNone (beW W H t dir), w) := by
  unfold sh_207
  rw [(dxy dir hd).1, (dxy dir hd).2, l12, nI_rem (by omega) (by decide) (by decide), nI_div (by omega) (by decide) (by decide)]
  simp only [lt_s_]
  have inn : ∀ (a b : Nat), b ≤ 12 → a < 200 → sh_199 (nI a) 0 (nI b - 1) w = some (decide (a < b), w) := by
    intro a b hb ha
    rw [y_isIn, decide_eq_true (n0le (by omega)), Bool.true_and, le_pred (by omega) (n0le (by omega))]
    by_cases q : a < b
    · rw [decide_eq_true q, decide_eq_true (nlt q (by omega))]
    · rw [decide_eq_false q, decide_eq_false (nnlt (by omega) (by omega))]
  have inm : ∀ (b : Int32), sh_199 (-1) 0 b w = some (false, w) := by
    intro b
    rw [y_isIn, decide_eq_false m1_n0]; rfl
  have : dir = 0 ∨ dir = 1 ∨ dir = 2 ∨ dir = 3 := by omega
  unfold beW
  rcases this with e | e | e | e <;> subst e
  · rw [if_neg (by decide), if_neg (by decide), if_neg (by decide), if_pos rfl, if_pos rfl, Int32.add_zero, cl_e (inn _ _ hW (by omega)), nm1]
    by_cases q1 : t % 12 < W
    · rw [decide_eq_true q1, if_pos rfl]
      by_cases q2 : t / 12 = 0
      · rw [if_pos q2, cl_e (inm _), if_neg (by decide), if_neg (by omega)]; rfl
      · rw [if_neg q2, cl_e (inn _ _ hH (by omega))]
        by_cases q3 : t / 12 - 1 < H
        · rw [decide_eq_true q3, if_pos rfl, if_pos ⟨by omega, q3, q1⟩, nI_m, nI_p, show 12 * (t / 12 - 1) + t % 12 = t - 12 by omega]; rfl
        · rw [decide_eq_false q3, if_neg (by decide), if_neg (fun z => q3 z.2.1)]; rfl
    · rw [decide_eq_false q1, if_neg (by decide), if_neg (fun z => q1 z.2.2)]; rfl
  · rw [if_pos rfl, if_neg (by decide), if_neg (by decide), if_neg (by decide), if_pos rfl, Int32.add_zero, l1, nI_p]
    show cl (sh_199 (nI (t % 12 + 1)) 0 (nI W - 1) w) _ = _
    rw [cl_e (inn _ _ hW (by omega))]
    by_cases q1 : t % 12 + 1 < W
    · rw [decide_eq_true q1, if_pos rfl]
      show cl (sh_199 (nI (t / 12)) 0 (nI H - 1) w) _ = _
      rw [cl_e (inn _ _ hH (by omega))]
      by_cases q3 : t / 12 < H
      · rw [decide_eq_true q3, if_pos rfl, if_pos ⟨q1, q3⟩, nI_m, nI_p, show 12 * (t / 12) + (t % 12 + 1) = t + 1 by omega]; rfl
      · rw [decide_eq_false q3, if_neg (by decide), if_neg (fun z => q3 z.2)]; rfl
    · rw [decide_eq_false q1, if_neg (by decide), if_neg (fun z => q1 z.1)]; rfl
  · rw [if_neg (by decide), if_neg (by decide), if_pos rfl, if_neg (by decide), if_neg (by decide), if_pos rfl, Int32.add_zero, l1, nI_p]
    show cl (sh_199 (nI (t % 12)) 0 (nI W - 1) w) _ = _
    rw [cl_e (inn _ _ hW (by omega))]
    by_cases q1 : t % 12 < W
    · rw [decide_eq_true q1, if_pos rfl]
      show cl (sh_199 (nI (t / 12 + 1)) 0 (nI H - 1) w) _ = _
      rw [cl_e (inn _ _ hH (by omega))]
      by_cases q3 : t / 12 + 1 < H
      · rw [decide_eq_true q3, if_pos rfl, if_pos ⟨q1, q3⟩, nI_m, nI_p, show 12 * (t / 12 + 1) + t % 12 = t + 12 by omega]; rfl
      · rw [decide_eq_false q3, if_neg (by decide), if_neg (fun z => q3 z.2)]; rfl
    · rw [decide_eq_false q1, if_neg (by decide), if_neg (fun z => q1 z.1)]; rfl
  · rw [if_neg (by decide), if_pos rfl, if_neg (by decide), if_neg (by decide), if_neg (by decide), if_neg (by decide), if_neg (by decide), Int32.add_zero, nm1]
    by_cases q2 : t % 12 = 0
    · rw [if_pos q2, cl_e (inm _), if_neg (by decide), if_neg (by omega)]; rfl
    · rw [if_neg q2, cl_e (inn _ _ hW (by omega))]
      by_cases q1 : t % 12 - 1 < W
      · rw [decide_eq_true q1, if_pos rfl, cl_e (inn _ _ hH (by omega))]
        by_cases q3 : t / 12 < H
        · rw [decide_eq_true q3, if_pos rfl, if_pos ⟨by omega, q1, q3⟩, nI_m, nI_p, show 12 * (t / 12) + (t % 12 - 1) = t - 1 by omega]; rfl
        · rw [decide_eq_false q3, if_neg (by decide), if_neg (fun z => q3 z.2.2)]; rfl
      · rw [decide_eq_false q1, if_neg (by decide), if_neg (fun z => q1 z.2.1)]; rfl
theorem y_beside (hF : WF S) (hS : wI w (o + 2) = S) {t dir : Nat} (ht : t < 144) (hd : dir < 4) : sh_251 o (nI t) (nI dir) w = some (eNone (beN S t dir), w) := by
  obtain ⟨W, H, e0, e1, hW, hH⟩ := hF.1
  unfold sh_251 beN
  rw [gd_l (by decide) (by decide), gd_l (by decide) (by decide), hS, ix_0, ix_1, e0, e1, cl_e (y_besideOf hW hH ht hd), ix_nI (by omega), ix_nI (by omega)]
/-- .. of a TUFT of the rug -/
theorem x_stepFrom (hF : WF S) (hR : HR S w h) {t dir : Nat} (ho : onR S t) (hd : dir < 4) : sh_55 h (nI t) (nI dir) w = some (eNone (beN S t dir), w) := by
  obtain ⟨W, H, e0, e1, hW, hH⟩ := hF.1
  have ht := ho.lt hF
  unfold sh_55 beN
  rw [cl_e (x_onRug hF hR _), isT_of hF ho, if_pos rfl, (dxy dir hd).1, (dxy dir hd).2, l12, nI_rem (by omega) (by decide) (by decide), nI_div (by omega) (by decide) (by decide), hR.1, hR.2.1, e0, e1, ix_nI (by omega), ix_nI (by omega)]
  simp only [lt_s_]
  obtain ⟨o1, o2⟩ := ho
  rw [e0, ix_nI (by omega)] at o1
  rw [e1, ix_nI (by omega)] at o2
  have fin : ∀ (a b : Nat) , a < 200 → b < 200 → (if 0 ≤ nI a then (if nI a < nI W then (if 0 ≤ nI b then (if nI b < nI H then (nI b * nI 12 + nI a) else -1) else -1) else -1) else (-1 : Int32)) = if a < W ∧ b < H then nI (b * 12 + a) else -1 := by
    intro a b ha hb
    rw [if_pos (n0le (by omega))]
    by_cases q1 : a < W
    · rw [if_pos (nlt q1 (by omega)), if_pos (n0le (by omega))]
      by_cases q2 : b < H
      · rw [if_pos (nlt q2 (by omega)), if_pos ⟨q1, q2⟩, nI_m, nI_p]
      · rw [if_neg (nnlt (by omega) (by omega)), if_neg (fun z => q2 z.2)]
    · rw [if_neg (nnlt (by omega) (by omega)), if_neg (fun z => q1 z.1)]
  have fin2 : ∀ x a : Int32, (if 0 ≤ (-1 : Int32) then x else -1) = -1 := fun x _ => if_neg m1_n0
  have : dir = 0 ∨ dir = 1 ∨ dir = 2 ∨ dir = 3 := by omega
  unfold beW
  rcases this with e | e | e | e <;> subst e
  · rw [if_neg (show ¬ 0 = 1 by decide), if_neg (show ¬ 0 = 3 by decide), if_neg (show ¬ 0 = 2 by decide), if_pos (show 0 = 0 from rfl), if_pos (show 0 = 0 from rfl), Int32.add_zero, nm1]
    by_cases q2 : t / 12 = 0
    · rw [if_pos q2, if_neg (show ¬ (1 ≤ t / 12 ∧ t / 12 - 1 < H ∧ t % 12 < W) by omega), if_pos (n0le (by omega)), if_pos (nlt o1 (by omega)), if_neg m1_n0]; rfl
    · rw [if_neg q2, fin _ _ (by omega) (by omega)]
      by_cases q3 : t % 12 < W ∧ t / 12 - 1 < H
      · rw [if_pos q3, if_pos ⟨by omega, q3.2, q3.1⟩, show (t / 12 - 1) * 12 + t % 12 = t - 12 by omega]; rfl
      · rw [if_neg q3, if_neg (fun z => q3 ⟨z.2.2, z.2.1⟩)]; rfl
  · rw [if_pos (show 1 = 1 from rfl), if_neg (show ¬ 1 = 2 by decide), if_neg (show ¬ 1 = 0 by decide), if_neg (show ¬ 1 = 0 by decide), if_pos (show 1 = 1 from rfl), Int32.add_zero, nI_s, fin _ _ (by omega) (by omega)]
    by_cases q3 : t % 12 + 1 < W ∧ t / 12 < H
    · rw [if_pos q3, if_pos q3, show t / 12 * 12 + (t % 12 + 1) = t + 1 by omega]; rfl
    · rw [if_neg q3, if_neg q3]; rfl
  · rw [if_neg (show ¬ 2 = 1 by decide), if_neg (show ¬ 2 = 3 by decide), if_pos (show 2 = 2 from rfl), if_neg (show ¬ 2 = 0 by decide), if_neg (show ¬ 2 = 1 by decide), if_pos (show 2 = 2 from rfl), Int32.add_zero, nI_s, fin _ _ (by omega) (by omega)]
    by_cases q3 : t % 12 < W ∧ t / 12 + 1 < H
    · rw [if_pos q3, if_pos q3, show (t / 12 + 1) * 12 + t % 12 = t + 12 by omega]; rfl
    · rw [if_neg q3, if_neg q3]; rfl
  · rw [if_neg (show ¬ 3 = 1 by decide), if_pos (show 3 = 3 from rfl), if_neg (show ¬ 3 = 2 by decide), if_neg (show ¬ 3 = 0 by decide), if_neg (show ¬ 3 = 0 by decide), if_neg (show ¬ 3 = 1 by decide), if_neg (show ¬ 3 = 2 by decide), Int32.add_zero, nm1]
    by_cases q2 : t % 12 = 0
    · rw [if_pos q2, if_neg (show ¬ (1 ≤ t % 12 ∧ t % 12 - 1 < W ∧ t / 12 < H) by omega), if_neg m1_n0]; rfl
    · rw [if_neg q2, fin _ _ (by omega) (by omega)]
      by_cases q3 : t % 12 - 1 < W ∧ t / 12 < H
      · rw [if_pos q3, if_pos ⟨by omega, q3.1, q3.2⟩, show t / 12 * 12 + (t % 12 - 1) = t - 1 by omega]; rfl
      · rw [if_neg q3, if_neg (fun z => q3 ⟨z.2.1, z.2.2⟩)]; rfl
/-- .. of another one -/
theorem x_stepNo (hF : WF S) (hR : HR S w h) {p : Int32} (ho : isT S p = false) (d : Int32) : sh_55 h p d w = some (-1, w) := by
  unfold sh_55
  rw [cl_e (x_onRug hF hR _), ho, if_neg (by decide)]
theorem beN_on (hF : WF S) {t dir u : Nat} (ho : onR S t) (e : beN S t dir = some u) : onR S u ∧ u < 144 := by
  have ht := ho.lt hF
  have key : onR S u := by
    obtain ⟨W, H, e0, e1, hW, hH⟩ := hF.1
    unfold onR at ho ⊢
    unfold beN beW at e
    have w0 : ix (S 0) = W := by rw [e0, ix_nI (by omega)]
    have w1 : ix (S 1) = H := by rw [e1, ix_nI (by omega)]
    rw [w0, w1] at ho e ⊢
    split at e
    · split at e
      · cases e; omega
      · cases e
    · split at e
      · split at e
        · cases e; omega
        · cases e
      · split at e
        · split at e
          · cases e; omega
          · cases e
        · split at e
          · cases e; omega
          · cases e
  exact ⟨key, key.lt hF⟩
/-- a STEP back -/
theorem beN_back (hF : WF S) {t dir u : Nat} (ho : onR S t) (hd : dir < 4) (e : beN S t dir = some u) : beN S u ((dir + 2) % 4) = some t := by
  obtain ⟨hu, -⟩ := beN_on hF ho e
  have : dir = 0 ∨ dir = 1 ∨ dir = 2 ∨ dir = 3 := by omega
  have hb : ix (S 0) ≤ 12 ∧ ix (S 1) ≤ 12 := by
    obtain ⟨W, H, e0, e1, hW, hH⟩ := hF.1
    rw [e0, e1, ix_nI (by omega), ix_nI (by omega)]
    exact ⟨hW, hH⟩
  obtain ⟨o1, o2⟩ := ho
  obtain ⟨u1, u2⟩ := hu
  unfold beN beW at e ⊢
  rcases this with q | q | q | q <;> subst q
  · rw [if_pos rfl] at e
    split at e
    · cases e
      rw [if_neg (by decide), if_neg (by decide), if_pos (by decide), if_pos (by omega)]
      exact congrArg some (by omega)
    · cases e
  · rw [if_neg (by decide), if_pos rfl] at e
    split at e
    · cases e
      rw [if_neg (by decide), if_neg (by decide), if_neg (by decide), if_pos (by omega)]
      exact congrArg some (by omega)
    · cases e
  · rw [if_neg (by decide), if_neg (by decide), if_pos rfl] at e
    split at e
    · cases e
      rw [if_pos (by decide), if_pos (by omega)]
      exact congrArg some (by omega)
    · cases e
  · rw [if_neg (by decide), if_neg (by decide), if_neg (by decide)] at e
    split at e
    · cases e
      rw [if_neg (by decide), if_pos (by decide), if_pos (by omega)]
      exact congrArg some (by omega)
    · cases e
/-- two DIRS of one TUFT lead elsewhere -/
theorem beN_inj {t d d' u : Nat} (hd : d < 4) (hd' : d' < 4) (e : beN S t d = some u) (e' : beN S t d' = some u) : d = d' := by
  have h1 : d = 0 ∨ d = 1 ∨ d = 2 ∨ d = 3 := by omega
  have h2 : d' = 0 ∨ d' = 1 ∨ d' = 2 ∨ d' = 3 := by omega
  unfold beN beW at e e'
  have key : ∀ d, (d = 0 ∨ d = 1 ∨ d = 2 ∨ d = 3) → beN S t d = some u → (d = 0 ∧ u + 12 = t) ∨ (d = 1 ∧ u = t + 1) ∨ (d = 2 ∧ u = t + 12) ∨ (d = 3 ∧ u + 1 = t) := by
    intro d hd e
    unfold beN beW at e
    rcases hd with q | q | q | q <;> subst q
    · rw [if_pos rfl] at e
      split at e
      · cases e; omega
      · cases e
    · rw [if_neg (by decide), if_pos rfl] at e
      split at e
      · cases e; omega
      · cases e
    · rw [if_neg (by decide), if_neg (by decide), if_pos rfl] at e
      split at e
      · cases e; omega
      · cases e
    · rw [if_neg (by decide), if_neg (by decide), if_neg (by decide)] at e
      split at e
      · cases e; omega
      · cases e
  have a := key d h1 e
  have b := key d' h2 e'
  omega
end BE
