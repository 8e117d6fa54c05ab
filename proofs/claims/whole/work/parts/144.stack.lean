/-! the reference's stack of signs: pops -/
theorem tp_h {α : Type} {Q : α → Wd → Prop} {w : Wd} {o j : Nat} {v : Int32} {f : Wd → Option (α × Wd)} (k : ∀ w1, wI w1 o = up (wI w o) j v → Kp (fun a => a = o) w w1 → wL w1 = wL w → tp (f w1) Q) : tp (stI w o j v f) Q := k _ wI_up (kp0 rfl) rfl
/-- one popped: a code more -/
def PopR (T c : Nat) (x dp : Int32) (w w' : Wd) : Prop := Kp (fun q => q = 166 ∨ q = 170) w w' ∧ wL w' = wL w ∧ wI w' 166 48 = nI T ∧ wI w' 166 46 = nI (c + 1) ∧ wI w' 166 49 = dp ∧ (∀ j, ¬ j = 46 → ¬ j = 48 → ¬ j = 49 → wI w' 166 j = wI w 166 j) ∧ wI w' 170 = up (up (up (wI w 170) (3 * c) x) (3 * c + 1) 0) (3 * c + 2) 0
theorem nI_pr (T : Nat) : nI (T + 1) - 1 = nI T := by rw [nI_pred]
section PO
variable {w w' : Wd} {T c : Nat} {x : Int32} {n lim m i : Nat} {b : Nat → Nat}
theorem y_code (hc : wI w 166 46 = nI c) (hc2 : c < 45) (x y z : Int32) : tp (sh_274 166 x y z w) (fun _ w' => Kp (fun q => q = 166 ∨ q = 170) w w' ∧ wL w' = wL w ∧ wI w' 166 = up (wI w 166) 46 (nI (c + 1)) ∧ wI w' 170 = up (up (up (wI w 170) (3 * c) x) (3 * c + 1) y) (3 * c + 2) z) := by
  unfold sh_274
  rw [hc, l3, nI_m]
  refine tp_gd (ib_nI (by omega) (by decide)) (tp_h (fun w1 e1 k1 L1 => ?_))
  have a1 : wI w1 166 = wI w 166 := k1.I (by decide)
  rw [show wI w1 166 46 = nI c by rw [a1]; exact hc, nI_m, l1, nI_p]
  refine tp_gd (ib_nI (by omega) (by decide)) (tp_h (fun w2 e2 k2 L2 => ?_))
  have a2 : wI w2 166 = wI w 166 := (k2.I (by decide)).trans a1
  rw [show wI w2 166 46 = nI c by rw [a2]; exact hc, nI_m, l2, nI_p]
  refine tp_gd (ib_nI (by omega) (by decide)) (tp_h (fun w3 e3 k3 L3 => ?_))
  have a3 : wI w3 166 = wI w 166 := (k3.I (by decide)).trans a2
  rw [show wI w3 166 46 = nI c by rw [a3]; exact hc, nI_p]
  refine tp_h (fun w4 e4 k4 L4 => tp_some ⟨?_, ?_, ?_, ?_⟩)
  · exact (((k1.mono (fun q y => Or.inr y)).trans (k2.mono (fun q y => Or.inr y))).trans (k3.mono (fun q y => Or.inr y))).trans (k4.mono (fun q y => Or.inl y))
  · rw [L4, L3, L2, L1]
  · rw [e4, a3]
  · rw [k4.I (by decide), show wI w3 170 = wI w3 (166 + 4) from rfl, e3, e2, e1, ix_nI (by omega), ix_nI (by omega), ix_nI (by omega)]
/-- the NOTs -/
theorem popN (h48 : wI w 166 48 = nI (T + 1)) (hT : T < 45) (h10 : wI w 186 T = 10) (hc : wI w 166 46 = nI c) (hc2 : c < 45) : ∃ w', bdN () w = some (.inl (), w') ∧ PopR T c 10 (wI w 166 49 - 1) w w' := by
  have key : tp (bdN () w) (lpQ (fun _ w' => PopR T c 10 (wI w 166 49 - 1) w w') (fun _ _ => False)) := by
    unfold bdN
    rw [h48, nI_pr]
    refine tp_if (show (0 : Int32) < nI (T + 1) from jp (by omega) (by omega)) (tp_gd (ib_nI hT (by decide)) (tp_if (by rw [ix_nI (by omega)]; exact h10) (tp_h (fun w1 e1 k1 L1 => ?_))))
    rw [show wI w1 166 49 = wI w 166 49 by rw [e1, up_o (by decide)]]
    refine tp_h (fun w2 e2 k2 L2 => tp_cl (y_code (c := c) (by rw [e2, up_o (by decide), e1, up_o (by decide)]; exact hc) hc2 10 0 0) (fun _ w3 h3 => tp_on ?_))
    obtain ⟨k3, L3, e3, g3⟩ := h3
    refine ⟨((k1.mono (fun q y => Or.inl y)).trans (k2.mono (fun q y => Or.inl y))).trans k3, by rw [L3, L2, L1], ?_, ?_, ?_, fun j h1 h2 h3 => ?_, ?_⟩
    · rw [e3, up_o (by decide), e2, up_o (by decide), e1, up_s]
    · rw [e3, up_s]
    · rw [e3, up_o (by decide), e2, up_s]
    · rw [e3, up_o h1, e2, up_o h3, e1, up_o h2]
    · rw [g3, k2.I (by decide), k1.I (by decide)]
  obtain ⟨r, w', e, h⟩ := key
  cases r with
  | inl u => exact ⟨w', e, h⟩
  | inr u => exact absurd h id
theorem stopN (h48 : wI w 166 48 = nI T) (hT : T ≤ 45) (h10 : 0 < T → ¬ wI w 186 (T - 1) = 10) : bdN () w = some (.inr (), w) := by
  unfold bdN
  rw [h48]
  by_cases q : 0 < T
  · rw [if_pos (jp q (by omega)), show nI T - 1 = nI (T - 1) from n_sub (y := 1) (by omega), gd_nI (by omega) (by decide), ix_nI (by omega), if_neg (h10 q)]
  · rw [if_neg (by rw [show T = 0 by omega]; decide)]
theorem notsI (h48 : wI w 166 48 = nI T) (hT : T ≤ 45) (h10 : 0 < T → ¬ wI w 186 (T - 1) = 10) : sh_273 166 w = some ((), w) := it_out (stopN h48 hT h10)
theorem tmN : ∀ (T c : Nat) (w : Wd), wI w 166 48 = nI T → wI w 166 46 = nI c → c + T ≤ 45 → ∃ r, itM bdN (T + 1) () w = some r := by
  intro T
  induction T with
  | zero =>
    intro c w h1 h2 h3
    exact ⟨((), w), by rw [itM, stopN h1 (by omega) (fun z => by omega)]⟩
  | succ T ih =>
    intro c w h1 h2 h3
    by_cases q : wI w 186 T = 10
    · obtain ⟨w', e, -, -, g1, g2, -⟩ := popN h1 (by omega) q h2 (by omega)
      obtain ⟨r, hr⟩ := ih (c + 1) w' g1 g2 (by omega)
      exact ⟨r, by rw [itM, e]; exact hr⟩
    · exact ⟨((), w), by rw [itM, stopN h1 (by omega) (fun _ => q)]⟩
/-- one NOT popped ahead -/
theorem notsP (h48 : wI w 166 48 = nI (T + 1)) (h10 : wI w 186 T = 10) (hc : wI w 166 46 = nI c) (hcT : c + T + 1 ≤ 45) : ∃ w', sh_273 166 w = sh_273 166 w' ∧ PopR T c 10 (wI w 166 49 - 1) w w' := by
  obtain ⟨w', e, h⟩ := popN h48 (by omega) h10 hc (by omega)
  obtain ⟨r, hr⟩ := tmN T (c + 1) w' h.2.2.1 h.2.2.2.1 (by omega)
  exact ⟨w', it_pop e (by omega) hr, h⟩
/-- what joins -/
theorem popJ {p : Int32} (h48 : wI w 166 48 = nI (T + 1)) (hT : T < 45) (h11 : wI w 186 T = x) (hx : x = 11 ∨ (x = 12 ∧ p = 12)) (hc : wI w 166 46 = nI c) (hc2 : c < 45) : ∃ w', bdJ p () w = some (.inl (), w') ∧ PopR T c x (wI w 166 49) w w' := by
  have key : tp (bdJ p () w) (lpQ (fun _ w' => PopR T c x (wI w 166 49) w w') (fun _ _ => False)) := by
    have fin : tp (stI w 166 48 ((wI w 166 48) - 1) (fun w6 => gd (ib (wI w6 166 48) 45) (cl (sh_274 166 (wI w6 (166 + 20) (ix (wI w6 166 48))) 0 0 w6) (fun _ w7 => (some (.inl (), w7) : Option ((Unit ⊕ Unit) × Wd)))))) (lpQ (fun _ w' => PopR T c x (wI w 166 49) w w') (fun _ _ => False)) := by
      rw [h48, nI_pr]
      refine tp_h (fun w1 e1 k1 L1 => ?_)
      rw [e1, up_s]
      refine tp_gd (ib_nI hT (by decide)) ?_
      rw [ix_nI (by omega), show wI w1 (166 + 20) T = x by rw [k1.I (by decide)]; exact h11]
      refine tp_cl (y_code (c := c) (by rw [e1, up_o (by decide)]; exact hc) hc2 x 0 0) (fun _ w3 h3 => tp_on ?_)
      obtain ⟨k3, L3, e3, g3⟩ := h3
      refine ⟨(k1.mono (fun q y => Or.inl y)).trans k3, by rw [L3, L1], ?_, ?_, ?_, fun j h1 h2 h3 => ?_, ?_⟩
      · rw [e3, up_o (by decide), e1, up_s]
      · rw [e3, up_s]
      · rw [e3, up_o (by decide), e1, up_o (by decide)]
      · rw [e3, up_o h1, e1, up_o h2]
      · rw [g3, k1.I (by decide)]
    unfold bdJ
    have e48 : wI w 166 48 - 1 = nI T := by rw [h48, nI_pr]
    have hib : ib (wI w 166 48 - 1) 45 = true := by rw [e48]; exact ib_nI hT (by decide)
    have h11' : wI w (166 + 20) (ix (wI w 166 48 - 1)) = x := by rw [e48, ix_nI (by omega)]; exact h11
    refine tp_if (by rw [h48]; exact jp (by omega) (by omega)) (tp_gd hib (tp_jn ?_))
    rcases hx with q | ⟨q, qp⟩
    · exact tp_if (h11'.trans q) fin
    · exact tp_ifn (by rw [h11', q]; decide) (tp_gd hib (tp_if (h11'.trans q) (tp_if qp fin)))
  obtain ⟨r, w', e, h⟩ := key
  cases r with
  | inl u => exact ⟨w', e, h⟩
  | inr u => exact absurd h id
theorem stopJ {p : Int32} (h48 : wI w 166 48 = nI T) (hT : T ≤ 45) (h11 : 0 < T → ¬ wI w 186 (T - 1) = 11) (h12 : 0 < T → p = 12 → ¬ wI w 186 (T - 1) = 12) : bdJ p () w = some (.inr (), w) := by
  unfold bdJ
  rw [h48]
  by_cases q : 0 < T
  · rw [if_pos (jp q (by omega)), show nI T - 1 = nI (T - 1) from n_sub (y := 1) (by omega), gd_nI (by omega) (by decide), jn_s, ix_nI (by omega), if_neg (h11 q), gd_nI (by omega) (by decide)]
    by_cases q2 : p = 12
    · rw [if_neg (h12 q q2)]
    · by_cases q3 : wI w (166 + 20) (T - 1) = 12
      · rw [if_pos q3, if_neg q2]
      · rw [if_neg q3]
  · rw [if_neg (by rw [show T = 0 by omega]; decide)]
theorem joinsI {p : Int32} (h48 : wI w 166 48 = nI T) (hT : T ≤ 45) (h11 : 0 < T → ¬ wI w 186 (T - 1) = 11) (h12 : 0 < T → p = 12 → ¬ wI w 186 (T - 1) = 12) : sh_275 166 p w = some ((), w) := it_out (stopJ h48 hT h11 h12)
theorem tmJ (p : Int32) : ∀ (T c : Nat) (w : Wd), wI w 166 48 = nI T → wI w 166 46 = nI c → c + T ≤ 45 → ∃ r, itM (bdJ p) (T + 1) () w = some r := by
  intro T
  induction T with
  | zero =>
    intro c w h1 h2 h3
    exact ⟨((), w), by rw [itM, stopJ h1 (by omega) (fun z => by omega) (fun z => by omega)]⟩
  | succ T ih =>
    intro c w h1 h2 h3
    by_cases q : wI w 186 T = 11 ∨ (wI w 186 T = 12 ∧ p = 12)
    · obtain ⟨w', e, -, -, g1, g2, -⟩ := popJ h1 (by omega) rfl q h2 (by omega)
      obtain ⟨r, hr⟩ := ih (c + 1) w' g1 g2 (by omega)
      exact ⟨r, by rw [itM, e]; exact hr⟩
    · exact ⟨((), w), by rw [itM, stopJ h1 (by omega) (fun _ z => q (Or.inl z)) (fun _ y z => q (Or.inr ⟨z, y⟩))]⟩
theorem joinsP {p : Int32} (h48 : wI w 166 48 = nI (T + 1)) (h11 : wI w 186 T = x) (hx : x = 11 ∨ (x = 12 ∧ p = 12)) (hc : wI w 166 46 = nI c) (hcT : c + T + 1 ≤ 45) : ∃ w', sh_275 166 p w = sh_275 166 p w' ∧ PopR T c x (wI w 166 49) w w' := by
  obtain ⟨w', e, h⟩ := popJ h48 (by omega) h11 hx hc (by omega)
  obtain ⟨r, hr⟩ := tmJ p T (c + 1) w' h.2.2.1 h.2.2.2.1 (by omega)
  exact ⟨w', it_pop e (by omega) hr, h⟩
theorem PopR.ys {dp : Int32} (h : PopR T c x dp w w') (hy : YS n b lim m i w) : YS n b lim m i w' := hy.g (fun j hj => by
  by_cases q : j = 46
  · omega
  · exact h.2.2.2.2.2.1 j q (by omega) (by omega)) h.2.1 (h.1.I (by decide))
end PO
