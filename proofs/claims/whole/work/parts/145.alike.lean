/-! a SENTENCE is read on both sides: what is alike -/
def syF (j : Nat) : Prop := nxF j ∨ j = 18 ∨ j = 15 ∨ j = 16 ∨ (46 ≤ j ∧ j ≤ 50)
def SX (s : Nat) (w w' : Wd) : Prop := Kp (fun q => q = 1 ∨ (s ≤ q ∧ q ≤ s + 3)) w w'
def SY (w w' : Wd) : Prop := Kp (fun q => q = 166 ∨ q = 170 ∨ q = 186) w w' ∧ Fm syF w w'
/-- c codes alike, d of them open yet -/
def STP (S : Nat → Int32) (s c d : Nat) (w1 w2 : Wd) : Prop := ∃ D : Nat → Nat, D 0 = 0 ∧ D c = d ∧ ∀ i, i < c → stpR S (wI w1 (s + 1) i) (wI w1 (s + 2) i) (wI w1 (s + 3) i) (wI w2 170 (3 * i)) (wI w2 170 (3 * i + 1)) (wI w2 170 (3 * i + 2)) (D i) (D (i + 1))
def SEN (a P : Nat) (g : Nat → List Nat) (w1 w2 : Wd) : Prop := wI w1 a 4 = nI P ∧ (∀ k, k < P → okL (g k) ∧ wL w1 (a + 5) k = lN (en5 (g k))) ∧ (∀ k, k < P → okL (g k) ∧ wL w2 171 (6 + k) = lN (en8 (g k))) ∧ wI w2 168 3 = nI P
/-- the class's numbers, the reference's -/
def SNX (s c on : Nat) (w : Wd) : Prop := wI w s 0 = nI on ∧ wI w s 1 = nI c
def SNY (wh : Bool) (T wi c on : Nat) (w : Wd) : Prop := wI w 166 46 = nI c ∧ wI w 166 47 = nI on ∧ wI w 166 48 = nI T ∧ wI w 166 49 = nI (wi + 1) ∧ wI w 166 50 = bi wh
section SE
variable {S : Nat → Int32} {s a P n lim m i c d on T wi : Nat} {wh : Bool} {g : Nat → List Nat} {b : Nat → Nat} {w w' w1 w2 v1 v2 : Wd}
theorem SX.refl : SX s w w := Kp.refl
theorem SX.trans (h : SX s w w') (h2 : SX s w' w2) : SX s w w2 := Kp.trans h h2
theorem SX.tt (h : Kp (fun q => q = 1) w w') : SX s w w' := h.mono (fun _ q => Or.inl q)
theorem SX.ss (h : Kp (fun q => s ≤ q ∧ q ≤ s + 3) w w') : SX s w w' := h.mono (fun _ q => Or.inr q)
theorem SX.oo {k : Nat} (h : Kp (fun q => q = k) w w') (h1 : s ≤ k) (h2 : k ≤ s + 3) : SX s w w' := h.mono (fun q y => Or.inr (by omega))
theorem SX.bad (h : SX s w w') (f : Int32) (e : Nat) : SX s w (xBad f e w') := h.trans (SX.tt ((kp0 (P := fun q => q = 1) rfl).sI rfl _ _))
theorem SY.refl : SY w w := ⟨Kp.refl, fun _ _ => rfl⟩
theorem SY.trans (h : SY w w') (h2 : SY w' w2) : SY w w2 := ⟨h.1.trans h2.1, fun j hj => (h2.2 j hj).trans (h.2 j hj)⟩
theorem SY.nn (h : Kp (fun q => q = 166) w w') (hF : Fm nxF w w') : SY w w' := ⟨h.mono (fun _ q => Or.inl q), fun j hj => hF j (fun q => hj (Or.inl q))⟩
theorem SY.oo {j : Nat} {v : Int32} (h : Kp (fun q => q = 166) w w') (e : wI w' 166 = up (wI w 166) j v) (hj : 46 ≤ j ∧ j ≤ 50) : SY w w' := ⟨h.mono (fun _ q => Or.inl q), fun i hi => by rw [e, up_o (fun q => hi (by unfold syF; omega))]⟩
theorem SY.kk (h : Kp (fun q => q = 186) w w') : SY w w' := ⟨h.mono (fun _ q => Or.inr (Or.inr q)), fun i hi => by rw [h.I (by decide)]⟩
theorem SY.cc {v : Int32} (h : Kp (fun q => q = 166 ∨ q = 170) w w') (e : wI w' 166 = up (wI w 166) 46 v) : SY w w' := ⟨h.mono (fun q y => by omega), fun i hi => by rw [e, up_o (fun q => hi (by unfold syF; omega))]⟩
theorem SY.pp {x dp : Int32} (h : PopR T c x dp w w') : SY w w' := ⟨h.1.mono (fun q y => by omega), fun i hi => h.2.2.2.2.2.1 i (fun q => hi (by unfold syF; omega)) (fun q => hi (by unfold syF; omega)) (fun q => hi (by unfold syF; omega))⟩
theorem SY.bad (h : SY w w') (f : Int32) (e : Nat) : SY w (yBad f e w') := h.trans ⟨((kp0 (P := fun q => q = 166 ∨ q = 170 ∨ q = 186) (Or.inl rfl)).sI (Or.inl rfl) _ _), fun j hj => by unfold yBad; rw [wI_other (fun q => hj (by unfold syF; omega)), wI_other (fun q => hj (by unfold syF; omega))]⟩
theorem STP.push (h : STP S s c d w1 w2) {x y z x' y' z' : Int32} {d' : Nat} (e1 : wI v1 (s + 1) = up (wI w1 (s + 1)) c x) (e2 : wI v1 (s + 2) = up (wI w1 (s + 2)) c y) (e3 : wI v1 (s + 3) = up (wI w1 (s + 3)) c z) (e4 : wI v2 170 = up (up (up (wI w2 170) (3 * c) x') (3 * c + 1) y') (3 * c + 2) z') (hst : stpR S x y z x' y' z' d d') : STP S s (c + 1) d' v1 v2 := by
  obtain ⟨D, h0, hc, h⟩ := h
  refine ⟨fun j => if j = c + 1 then d' else D j, ?_, if_pos rfl, fun i hi => ?_⟩
  · show (if 0 = c + 1 then d' else D 0) = 0
    rw [if_neg (by omega)]; exact h0
  · show stpR S _ _ _ _ _ _ (if i = c + 1 then d' else D i) (if i + 1 = c + 1 then d' else D (i + 1))
    rw [e1, e2, e3, e4, if_neg (show ¬ i = c + 1 by omega)]
    by_cases q : i = c
    · subst q
      rw [if_pos rfl, up_s, up_s, up_s, up_o (by omega), up_o (by omega), up_s, up_o (by omega), up_s, up_s, hc]
      exact hst
    · rw [if_neg (by omega), up_o q, up_o q, up_o q, up_o (by omega), up_o (by omega), up_o (by omega), up_o (by omega), up_o (by omega), up_o (by omega), up_o (by omega), up_o (by omega), up_o (by omega)]
      exact h i (by omega)
theorem STP.same (h : STP S s c d w1 w2) (e1 : wI v1 (s + 1) = wI w1 (s + 1)) (e2 : wI v1 (s + 2) = wI w1 (s + 2)) (e3 : wI v1 (s + 3) = wI w1 (s + 3)) (e4 : wI v2 170 = wI w2 170) : STP S s c d v1 v2 := by
  unfold STP
  rw [e1, e2, e3, e4]
  exact h
theorem SEN.kp (h : SEN a P g w1 w2) (ha : a = 7 ∨ a = 17) (hs : s = 27 ∨ s = 31) (hx : SX s w1 v1) (hy : SY w2 v2) : SEN a P g v1 v2 := by
  unfold SEN at *
  rw [hx.I (show ¬ (a = 1 ∨ (s ≤ a ∧ a ≤ s + 3)) by omega), hx.L (show ¬ (a + 5 = 1 ∨ (s ≤ a + 5 ∧ a + 5 ≤ s + 3)) by omega), hy.1.L (show ¬ (171 = 166 ∨ 171 = 170 ∨ 171 = 186) by decide), hy.1.I (show ¬ (168 = 166 ∨ 168 = 170 ∨ 168 = 186) by decide)]
  exact h
theorem x_put5 (e1 : wI w s 1 = nI c) (hc : c < 64) (x y z : Int32) : tp (sh_165 s x y z w) (fun _ w' => Kp (fun q => s ≤ q ∧ q ≤ s + 3) w w' ∧ wI w' s = up (wI w s) 1 (nI (c + 1)) ∧ wI w' (s + 1) = up (wI w (s + 1)) c x ∧ wI w' (s + 2) = up (wI w (s + 2)) c y ∧ wI w' (s + 3) = up (wI w (s + 3)) c z) := by
  unfold sh_165
  rw [e1]
  have hib : ib (nI c) 64 = true := ib_nI hc (by decide)
  refine tp_if (n0le (by omega)) (tp_if (show nI c < nI 64 from nlt hc (by decide)) (tp_gd hib (tp_stG (fun u1 g1 k1 => ?_))))
  have a1 : wI u1 s = wI w s := k1.I (by omega)
  rw [show wI u1 s 1 = nI c by rw [a1]; exact e1]
  refine tp_gd hib (tp_stG (fun u2 g2 k2 => ?_))
  have a2 : wI u2 s = wI w s := (k2.I (by omega)).trans a1
  rw [show wI u2 s 1 = nI c by rw [a2]; exact e1]
  refine tp_gd hib (tp_stG (fun u3 g3 k3 => ?_))
  have a3 : wI u3 s = wI w s := (k3.I (by omega)).trans a2
  rw [show wI u3 s 1 = nI c by rw [a3]; exact e1, nI_s]
  refine tp_stG (fun u4 g4 k4 => tp_some ⟨?_, ?_, ?_, ?_, ?_⟩)
  · exact (((k1.mono (fun q y => by omega)).trans (k2.mono (fun q y => by omega))).trans (k3.mono (fun q y => by omega))).trans (k4.mono (fun q y => by omega))
  · rw [g4, a3]
  · rw [k4.I (by omega), k3.I (by omega), k2.I (by omega), g1, ix_nI (by omega)]
  · rw [k4.I (by omega), k3.I (by omega), g2, k1.I (by omega), ix_nI (by omega)]
  · rw [k4.I (by omega), g3, k2.I (by omega), k1.I (by omega), ix_nI (by omega)]
theorem STP.tt (h : STP S s c d w1 w2) (hs : s = 27 ∨ s = 31) (hx : Kp (fun q => q = 1 ∨ q = s) w1 v1) (hy : wI v2 170 = wI w2 170) : STP S s c d v1 v2 :=
  h.same (hx.I (by omega)) (hx.I (by omega)) (hx.I (by omega)) hy
end SE
def SEM (S : Nat → Int32) (s a P : Nat) (g : Nat → List Nat) (n : Nat) (b : Nat → Nat) (lim m : Nat) (wh : Bool) (T wi c d on i : Nat) (w1 w2 : Wd) : Prop := XQ n b lim m i w1 ∧ YS n b lim m i w2 ∧ SNX s c on w1 ∧ SNY wh T wi c on w2 ∧ on ≤ 20 ∧ d ≤ on ∧ STP S s c d w1 w2 ∧ SEN a P g w1 w2
/-- how reading goes on: refused alike, or on alike -/
def SPO (S : Nat → Int32) (s a P : Nat) (g : Nat → List Nat) (n : Nat) (b : Nat → Nat) (lim m : Nat) (ext : Nat × List Nat → Prop) (T wi d on i : Nat) (u1 u2 : Wd) (r : Bool) (w1 : Wd) : Prop :=
  SX s u1 w1 ∧ ((r = false ∧ ∃ k v, k + i ≤ m + 2 ∧ RunF k u2 v ∧ FL w1 v ∧ SY u2 v) ∨ (r = true ∧ ∃ k v c' on' i', k + i ≤ i' ∧ RunTo k u2 v ∧ SEM S s a P g n b lim m true T wi c' (d + 1) on' i' w1 v ∧ on < on' ∧ c' + T + 1 ≤ 2 * on' ∧ SY u2 v ∧ (∀ j, j < T → wI v 186 j = wI u2 186 j) ∧ ext (tkA n b m i')))
def ONEP (S : Nat → Int32) (s a P : Nat) (g : Nat → List Nat) (n : Nat) (b : Nat → Nat) (lim m : Nat) (wi : Nat) (F : Nat → Nat → Nat → Int32 → Wd → Option (Bool × Wd)) : Prop := ∀ T c d on i w1 w2, SEM S s a P g n b lim m false T wi c d on i w1 w2 → c + T ≤ 2 * on → tp (F s 1 a (nI wi) w1) (SPO S s a P g n b lim m (fun _ => True) T wi d on i w1 w2)
def ALLP (S : Nat → Int32) (s a P : Nat) (g : Nat → List Nat) (n : Nat) (b : Nat → Nat) (lim m : Nat) (wi : Nat) (F : Nat → Nat → Nat → Int32 → Wd → Option (Bool × Wd)) : Prop := ∀ T c d on i w1 w2, SEM S s a P g n b lim m false T wi c d on i w1 w2 → c + T ≤ 2 * on → (0 < T → wI w2 186 (T - 1) = 12 ∨ wI w2 186 (T - 1) = 13) → tp (F s 1 a (nI wi) w1) (SPO S s a P g n b lim m (fun t => wdB t 11 = false) T wi d on i w1 w2)
def CONP (S : Nat → Int32) (s a P : Nat) (g : Nat → List Nat) (n : Nat) (b : Nat → Nat) (lim m : Nat) (wi : Nat) (F : Nat → Nat → Nat → Int32 → Wd → Option (Bool × Wd)) : Prop := ∀ T c d on i w1 w2, SEM S s a P g n b lim m false T wi c d on i w1 w2 → c + T ≤ 2 * on → (0 < T → wI w2 186 (T - 1) = 13) → tp (F s 1 a (nI wi) w1) (SPO S s a P g n b lim m (fun t => wdB t 11 = false ∧ wdB t 10 = false) T wi d on i w1 w2)
