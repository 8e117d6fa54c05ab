/-! a ONE's beginning, on both sides -/
def bdK (r : Bool) (w' : Wd) : Option ((Int32 ⊕ Int32) × Wd) := if r = true then some (.inl 1, w') else some (.inr ((-1) - wI w' 166 16), w')
def oneL (f160 : Nat → Nat → Nat → Int32 → Wd → Option (Bool × Wd)) (f162 : Nat → Nat → Nat → Int32 → Wd → Option (Bool × Wd)) (o0 o2 : Nat) (p3 : Int32) (t4 z8 t12 : Bool) (w20 : Wd) : Option (Bool × Wd) := if z8 = true then (cl (sh_37 1 w20) (fun _ w22 => cl (f160 o0 1 o2 (p3 + 1) w22) (fun r25 w24 => if r25 = true then (cl (sh_58 1 41 w24) (fun r28 w27 => if r28 = true then (some (true, w27)) else (some (false, w27)))) else (some (false, w24))))) else (if t12 = true then (cl (sh_164 o0 1 o2 w20) (fun r32 w31 => some (r32, w31))) else (if t4 = true then (cl (sh_37 1 w20) (fun _ w34 => cl (f162 o0 1 o2 (p3 + 1) w34) (fun r37 w36 => if r37 = true then (cl (sh_165 o0 6 0 0 w36) (fun _ w39 => some (true, w39))) else (some (false, w36))))) else (cl (sh_166 o0 1 w20) (fun r42 w41 => some (r42, w41)))))
def oneK (f160 : Nat → Nat → Nat → Int32 → Wd → Option (Bool × Wd)) (f162 : Nat → Nat → Nat → Int32 → Wd → Option (Bool × Wd)) (o0 o2 : Nat) (p3 : Int32) (t4 z8 t12 : Bool) (w15 : Wd) : Option (Bool × Wd) := if wI w15 o0 0 < 20 then (if 8 ≤ p3 then (cl (sh_36 1 4 w15) (fun r19 w18 => some (r19, w18))) else (stI w15 o0 0 ((wI w15 o0 0) + 1) (fun w20 => if z8 = true then (cl (sh_37 1 w20) (fun _ w22 => cl (f160 o0 1 o2 (p3 + 1) w22) (fun r25 w24 => if r25 = true then (cl (sh_58 1 41 w24) (fun r28 w27 => if r28 = true then (some (true, w27)) else (some (false, w27)))) else (some (false, w24))))) else (if t12 = true then (cl (sh_164 o0 1 o2 w20) (fun r32 w31 => some (r32, w31))) else (if t4 = true then (cl (sh_37 1 w20) (fun _ w34 => cl (f162 o0 1 o2 (p3 + 1) w34) (fun r37 w36 => if r37 = true then (cl (sh_165 o0 6 0 0 w36) (fun _ w39 => some (true, w39))) else (some (false, w36))))) else (cl (sh_166 o0 1 w20) (fun r42 w41 => some (r42, w41)))))))) else (cl (sh_36 1 4 w15) (fun r44 w43 => some (r44, w43)))
theorem tp_ltv {α β : Type} {Q : α → Wd → Prop} {x y : β} {f : β → Option (α × Wd)} (e : x = y) (k : tp (f y) Q) : tp (lt x f) Q := by subst e; exact k
section OH
variable {S : Nat → Int32} {s a P n lim m i c d on T wi : Nat} {wh : Bool} {g : Nat → List Nat} {b : Nat → Nat} {w w' w1 w2 v1 v2 : Wd}
variable {f160 f162 : Nat → Nat → Nat → Int32 → Wd → Option (Bool × Wd)} {p : Int32} {Q : Bool → Wd → Prop}
theorem zwk_j {j : Nat} (hj : j < 20) : zwk (some (1010 + j)) = true := by
  show (decide (1010 ≤ 1010 + j) && decide (1010 + j < 1030)) = true
  rw [decide_eq_true (show 1010 ≤ 1010 + j by omega), decide_eq_true (show 1010 + j < 1030 by omega)]
  rfl
theorem fr_word (hX : XQ n b lim m i w1) {j : Nat} (hj : j < 20) (hw : wdB (tkA n b m i) j = true) (h12 : j = 12 → tp (oneK f160 f162 s a p true false false w1) Q) (h13 : j = 13 → tp (oneK f160 f162 s a p false false true w1) Q) (hm : 14 ≤ j → tp (oneK f160 f162 s a p false false false w1) Q) (hb : j < 12 → tp (cl (sh_36 1 1 w1) (fun r w => some (r, w))) Q) : tp (sb_162 f160 f162 s 1 a p w1) Q := by
  have e33 := x_wB hX.1 hj hw
  have t1 : (tkA n b m i).1 = 1 := (wdB_iff.mp hw).1
  have e59 : sh_59 1 w1 = some (0, w1) := by rw [x_signHere hX.1, if_neg (by rw [t1]; decide)]
  have z1 := zwk_j hj
  unfold sb_162
  refine tp_ce e33 (tp_jn (tp_gd z1 (tp_gd rfl ?_)))
  by_cases q12 : j = 12
  · refine tp_if (congrArg some (by omega)) (tp_ce e59 (tp_ltv (if_neg (by decide)) (tp_ce e33 (tp_jn (tp_gd z1 (tp_gd rfl (tp_ifn (fun z => by have := Option.some.inj z; omega) (tp_jn (tp_if rfl ?_)))))))))
    exact h12 q12
  · refine tp_ifn (fun z => by have := Option.some.inj z; omega) (tp_ce e59 (tp_ltv (if_neg (by decide)) (tp_ce e33 (tp_jn (tp_gd z1 (tp_gd rfl ?_))))))
    by_cases q13 : j = 13
    · refine tp_if (congrArg some (by omega)) (tp_jn (tp_ifn (by decide) (tp_ifn (by decide) (tp_if rfl ?_))))
      exact h13 q13
    · refine tp_ifn (fun z => by have := Option.some.inj z; omega) (tp_jn (tp_ifn (by decide) (tp_ifn (by decide) (tp_ifn (by decide) (tp_ce (x_ms hX.1 hj hw) ?_)))))
      by_cases q14 : j < 14
      · refine tp_if (if_pos q14) ?_
        exact hb (by omega)
      · refine tp_ifn (by rw [if_neg q14]; exact n_m1 (by omega)) ?_
        exact hm (by omega)
theorem fr_sign (hX : XQ n b lim m i w1) (hw : sgOk (tkA n b m i) 40 = true) (h40 : tp (oneK f160 f162 s a p false true false w1) Q) : tp (sb_162 f160 f162 s 1 a p w1) Q := by
  have t3 : (tkA n b m i).1 = 3 := by
    unfold sgOk at hw
    rw [Bool.and_eq_true, decide_eq_true_eq] at hw
    exact hw.1
  have e33 : sh_33 1 w1 = some (none, w1) := x_wn hX.1 (fun j hj => wdB_no (by rw [t3]; decide))
  have e59 : sh_59 1 w1 = some (40, w1) := by rw [x_signHere hX.1, (sg_eq (c := 40) (by decide) (by decide)).mpr hw]; rfl
  unfold sb_162
  refine tp_ce e33 (tp_jn (tp_gd rfl (tp_gd rfl (tp_ifn (fun z => by cases z) (tp_ce e59 (tp_ltv (if_pos rfl) (tp_ce e33 (tp_jn (tp_gd rfl (tp_gd rfl (tp_ifn (fun z => by cases z) (tp_jn (tp_ifn (by decide) (tp_if rfl ?_))))))))))))))
  exact h40
theorem fr_none (hX : XQ n b lim m i w1) (hn : ∀ j, j < 20 → wdB (tkA n b m i) j = false) (hw : sgOk (tkA n b m i) 40 = false) (hb : tp (cl (sh_36 1 1 w1) (fun r w => some (r, w))) Q) : tp (sb_162 f160 f162 s 1 a p w1) Q := by
  have e33 : sh_33 1 w1 = some (none, w1) := x_wn hX.1 hn
  have e59 := x_signHere hX.1
  unfold sb_162
  refine tp_ce e33 (tp_jn (tp_gd rfl (tp_gd rfl (tp_ifn (fun z => by cases z) (tp_ce e59 (tp_ltv (if_neg (fun z => ?_)) (tp_ce e33 (tp_jn (tp_gd rfl (tp_gd rfl (tp_ifn (fun z => by cases z) (tp_jn (tp_ifn (by decide) (tp_ifn (by decide) (tp_ifn (by decide) (tp_ce (x_msn hX.1 hn) (tp_if rfl ?_))))))))))))))))) 
  · rw [(sg_eq (c := 40) (by decide) (by decide)).mp z] at hw
    cases hw
  · exact hb
theorem x_full {t4 z8 t12 : Bool} (hX : XQ n b lim m i w1) (e0 : wI w1 s 0 = nI on) (hon : on ≤ 20) (hwi : wi < 1000) (h : on = 20 ∨ 8 ≤ wi) : oneK f160 f162 s a (nI wi) t4 z8 t12 w1 = some (false, xBad 4 (atB n b lim m i) w1) := by
  unfold oneK
  rw [e0]
  by_cases q : on < 20
  · rw [if_pos (show nI on < (20 : Int32) from nlt (b := 20) q (by decide)), if_pos (show (8 : Int32) ≤ nI wi from nle (a := 8) (by omega) (by omega)), cl_e (x_bad hX.1 4)]
    rfl
  · rw [if_neg (show ¬ nI on < (20 : Int32) from nnlt (b := 20) (by omega) (by omega)), cl_e (x_bad hX.1 4)]
    rfl
theorem x_free {t4 z8 t12 : Bool} (e0 : wI w1 s 0 = nI on) (hon : on < 20) (hwi : wi < 8) : oneK f160 f162 s a (nI wi) t4 z8 t12 w1 = oneL f160 f162 s a (nI wi) t4 z8 t12 (sI w1 s 0 (nI (on + 1))) := by
  unfold oneK
  rw [e0, if_pos (show nI on < (20 : Int32) from nlt (b := 20) hon (by decide)), if_neg (show ¬ (8 : Int32) ≤ nI wi from nnle (b := wi) (a := 8) (by omega) (by decide)), nI_s]
  rfl
theorem y_full {r2 r4 : Bool} {r6 : Int32} (hY : YS n b lim m i w2) (e47 : wI w2 166 47 = nI on) (e49 : wI w2 166 49 = nI (wi + 1)) (hon : on ≤ 20) (hwi : wi < 1000) (h : on = 20 ∨ 8 ≤ wi) : oneY r2 r4 r6 w2 = some (false, yBad 4 (atB n b lim m i) w2) := by
  unfold oneY
  rw [e47, e49]
  by_cases q : on = 20
  · rw [if_pos (show nI on = 20 by rw [q]; rfl), cl_e (y_bad hY.1 4)]
    rfl
  · rw [if_neg (show ¬ nI on = (20 : Int32) from n_ne (b := 20) q (by omega) (by decide)), if_pos (show (8 : Int32) < nI (wi + 1) from nlt (a := 8) (by omega) (by omega)), cl_e (y_bad hY.1 4)]
    rfl
theorem y_free {r2 r4 : Bool} {r6 : Int32} (hY : YS n b lim m i w2) (hT : TM n b (min n lim) m) (e47 : wI w2 166 47 = nI on) (e49 : wI w2 166 49 = nI (wi + 1)) (hon : on < 20) (hwi : wi < 8) : ∃ v, oneY r2 r4 r6 w2 = oneZ r2 r4 r6 v ∧ YS n b lim m (nextN m i) v ∧ Kp (fun q => q = 166) w2 v ∧ (∀ j, ¬ nxF j → ¬ j = 47 → wI v 166 j = wI w2 166 j) ∧ wI v 166 47 = nI (on + 1) := by
  have key : tp (stI w2 166 47 ((wI w2 166 47) + 1) (fun w15 => sh_191 166 w15)) (fun _ v => YS n b lim m (nextN m i) v ∧ Kp (fun q => q = 166) w2 v ∧ (∀ j, ¬ nxF j → ¬ j = 47 → wI v 166 j = wI w2 166 j) ∧ wI v 166 47 = nI (on + 1)) := by
    rw [e47, nI_s]
    refine tp_h (fun u e k L => tp_mono (ys_go (hY.up k e L (by decide)) hT) (fun _ v g => ⟨g.1, k.trans g.2.1, fun j h1 h2 => ?_, ?_⟩))
    · rw [g.2.2 j h1, e, up_o h2]
    · rw [g.2.2 47 (by unfold nxF; omega), e, up_s]
  obtain ⟨r, v, e, h⟩ := key
  refine ⟨v, ?_, h⟩
  unfold oneY
  rw [if_neg (show ¬ wI w2 166 47 = (20 : Int32) by rw [e47]; exact n_ne (b := 20) (by omega) (by omega) (by decide)), if_neg (show ¬ (8 : Int32) < wI w2 166 49 by rw [e49]; exact (nnlt (by omega) (by omega) : ¬ nI 8 < nI (wi + 1)))]
  rw [stI_s] at e ⊢
  rw [cl_e e]
  rfl
theorem y_push {r2 r4 : Bool} {r6 : Int32} (hr : r2 = true ∨ r4 = true) (e48 : wI w2 166 48 = nI T) (hT : T < 45) (e49 : wI w2 166 49 = nI (wi + 1)) : ∃ v, oneZ r2 r4 r6 w2 = some (true, v) ∧ wI v 186 = up (wI w2 186) T (if r2 = true then 10 else 13) ∧ wI v 166 48 = nI (T + 1) ∧ wI v 166 49 = nI (wi + 2) ∧ (∀ j, ¬ j = 48 → ¬ j = 49 → wI v 166 j = wI w2 166 j) ∧ Kp (fun q => q = 166 ∨ q = 186) w2 v ∧ wL v = wL w2 := by
  have key : tp (oneZ r2 r4 r6 w2) (fun r v => r = true ∧ wI v 186 = up (wI w2 186) T (if r2 = true then 10 else 13) ∧ wI v 166 48 = nI (T + 1) ∧ wI v 166 49 = nI (wi + 2) ∧ (∀ j, ¬ j = 48 → ¬ j = 49 → wI v 166 j = wI w2 166 j) ∧ Kp (fun q => q = 166 ∨ q = 186) w2 v ∧ wL v = wL w2) := by
    have fin : tp (lt (if r2 = true then 10 else 13 : Int32) (fun z20 => gd (ib (wI w2 166 48) 45) (stI w2 (166 + 20) (ix (wI w2 166 48)) z20 (fun w21 => stI w21 166 48 ((wI w21 166 48) + 1) (fun w22 => stI w22 166 49 ((wI w22 166 49) + 1) (fun w23 => some (true, w23))))))) (fun r v => r = true ∧ wI v 186 = up (wI w2 186) T (if r2 = true then 10 else 13) ∧ wI v 166 48 = nI (T + 1) ∧ wI v 166 49 = nI (wi + 2) ∧ (∀ j, ¬ j = 48 → ¬ j = 49 → wI v 166 j = wI w2 166 j) ∧ Kp (fun q => q = 166 ∨ q = 186) w2 v ∧ wL v = wL w2) := by
      refine tp_lt ?_
      rw [e48, ix_nI (by omega)]
      refine tp_gd (ib_nI hT (by decide)) (tp_h (fun u1 e1 k1 L1 => ?_))
      rw [show wI u1 166 48 = nI T by rw [k1.I (by decide)]; exact e48, nI_s]
      refine tp_h (fun u2 e2 k2 L2 => ?_)
      rw [show wI u2 166 49 = nI (wi + 1) by rw [e2, up_o (by decide), k1.I (by decide)]; exact e49, nI_s]
      refine tp_h (fun u3 e3 k3 L3 => tp_some ⟨rfl, ?_, ?_, ?_, fun j h1 h2 => ?_, ?_, by rw [L3, L2, L1]⟩)
      · rw [k3.I (by decide), k2.I (by decide)]; exact e1
      · rw [e3, up_o (by decide), e2, up_s]
      · rw [e3, up_s]
      · rw [e3, up_o h2, e2, up_o h1, k1.I (by decide)]
      · exact ((k1.mono (fun q y => Or.inr y)).trans (k2.mono (fun q y => Or.inl y))).trans (k3.mono (fun q y => Or.inl y))
    unfold oneZ
    refine tp_jn ?_
    rcases hr with q | q
    · exact tp_if q fin
    · cases q2 : r2 with
      | true => rw [q2] at fin; exact tp_if rfl fin
      | false => rw [q2] at fin; exact tp_ifn (by decide) (tp_if q fin)
  obtain ⟨r, v, e, h1, h⟩ := key
  exact ⟨v, by rw [e, h1], h⟩
theorem SEM.bump {i' : Nat} (h : SEM S s a P g n b lim m false T wi c d on i w1 w2) (ha : a = 7 ∨ a = 17) (hs : s = 27 ∨ s = 31) (hon : on < 20) (hXu : XQ n b lim m i' v1) (kx : Kp (fun q => q = 1 ∨ q = s) w1 v1) (e0 : wI v1 s 0 = nI (on + 1)) (e1 : wI v1 s 1 = nI c) (hYv : YS n b lim m i' v2) (ky : Kp (fun q => q = 166) w2 v2) (fy : ∀ j, ¬ nxF j → ¬ j = 47 → wI v2 166 j = wI w2 166 j) (e47 : wI v2 166 47 = nI (on + 1)) : SEM S s a P g n b lim m false T wi c d (on + 1) i' v1 v2 ∧ SX s w1 v1 ∧ SY w2 v2 := by
  obtain ⟨hX, hY, hx, hy, h20, hd, hst, hen⟩ := h
  have sx : SX s w1 v1 := kx.mono (fun q y => by omega)
  have sy : SY w2 v2 := ⟨ky.mono (fun q y => Or.inl y), fun j hj => fy j (fun q => hj (Or.inl q)) (fun q => hj (by unfold syF; omega))⟩
  refine ⟨⟨hXu, hYv, ⟨e0, e1⟩, ⟨?_, e47, ?_, ?_, ?_⟩, by omega, by omega, hst.tt hs kx (ky.I (by decide)), hen.kp ha hs sx sy⟩, sx, sy⟩
  · rw [fy 46 (by unfold nxF; omega) (by decide)]; exact hy.1
  · rw [fy 48 (by unfold nxF; omega) (by decide)]; exact hy.2.2.1
  · rw [fy 49 (by unfold nxF; omega) (by decide)]; exact hy.2.2.2.1
  · rw [fy 50 (by unfold nxF; omega) (by decide)]; exact hy.2.2.2.2
end OH
