/-! a ONE: what is trod, what is measured -/
section LV
variable {S : Nat → Int32} {s a P n lim m i i' c d on T wi : Nat} {wh : Bool} {g : Nat → List Nat} {b : Nat → Nat} {w w' w1 w2 u v u' v' v2 : Wd}
variable {f160 f162 : Nat → Nat → Nat → Int32 → Wd → Option (Bool × Wd)} {r2 r4 : Bool} {r6 : Int32}
theorem t2_j1 {α β A : Type} {Q : α → Wd → β → Wd → Prop} {m2 : Option (β × Wd)} {J : A → Wd → Option (α × Wd)} {f : (A → Wd → Option (α × Wd)) → Option (α × Wd)} (k : t2 (f J) m2 Q) : t2 (jn J f) m2 Q := k
theorem t2_j2 {α β A : Type} {Q : α → Wd → β → Wd → Prop} {m1 : Option (α × Wd)} {J : A → Wd → Option (β × Wd)} {f : (A → Wd → Option (β × Wd)) → Option (β × Wd)} (k : t2 m1 (f J) Q) : t2 m1 (jn J f) Q := k
/-- how a leaf ends -/
def LEQ (S : Nat → Int32) (s a P : Nat) (g : Nat → List Nat) (n : Nat) (b : Nat → Nat) (lim m : Nat) (T wi c d on i : Nat) (u v : Wd) (r1 : Bool) (w1 : Wd) (r2 : Bool) (w2 : Wd) : Prop := SX s u w1 ∧ SY v w2 ∧ ((r1 = false ∧ r2 = false ∧ FL w1 w2) ∨ (r1 = true ∧ r2 = true ∧ (∃ i', i ≤ i' ∧ SEM S s a P g n b lim m true T wi (c + 1) (d + 1) on i' w1 w2) ∧ wI w2 186 = wI v 186))
theorem leaf_spo {m1 : Option (Bool × Wd)} (hlt : i < m) (ht : t2 m1 (oneZ r2 r4 r6 v) (LEQ S s a P g n b lim m T wi c d (on + 1) (nextN m i) u v)) (hbd : bdS 1 w2 = cl (oneZ r2 r4 r6 v) bdK) (sx : SX s w1 u) (sy : SY w2 v) (e186 : wI v 186 = wI w2 186) (hcT : c + T ≤ 2 * on) : tp m1 (SPO S s a P g n b lim m (fun _ => True) T wi d on i w1 w2) := by
  obtain ⟨r1, x1, e1, q2, x2, e2, hx, hy, hq⟩ := ht
  have hnx := nx_lt hlt
  refine tp_eq e1 ⟨sx.trans hx, ?_⟩
  rcases hq with ⟨a1, a2, fl⟩ | ⟨a1, a2, ⟨i', hi, hS⟩, f186⟩
  · refine Or.inl ⟨a1, 1, x2, by omega, runf ?_, fl, sy.trans hy⟩
    rw [hbd, e2, a2]
    rfl
  · refine Or.inr ⟨a1, 1, x2, c + 1, on + 1, i', by omega, run1 ?_, hS, by omega, by omega, sy.trans hy, fun j _ => by rw [f186, e186], trivial⟩
    rw [hbd, e2, a2]
    rfl
/-- a leaf is told -/
theorem LEQ_on {ca cb cn x y z : Int32} (h : SEM S s a P g n b lim m false T wi c d on i u v) (ha : a = 7 ∨ a = 17) (hs : s = 27 ∨ s = 31) (hi : i ≤ i') (hX : XQ n b lim m i' u') (hY : YS n b lim m i' v') (sx : SX s u u') (sy : SY v v') (q0 : wI u' s = up (wI u s) 1 (nI (c + 1))) (q1 : wI u' (s + 1) = up (wI u (s + 1)) c ca) (q2 : wI u' (s + 2) = up (wI u (s + 2)) c cb) (q3 : wI u' (s + 3) = up (wI u (s + 3)) c cn) (p170 : wI v' 170 = up (up (up (wI v 170) (3 * c) x) (3 * c + 1) y) (3 * c + 2) z) (e46 : wI v' 166 46 = nI (c + 1)) (e50 : wI v' 166 50 = 1) (ef : ∀ j, 47 ≤ j → j < 50 → wI v' 166 j = wI v 166 j) (e186 : wI v' 186 = wI v 186) (hd1 : d + 1 ≤ on) (hst2 : stpR S ca cb cn x y z d (d + 1)) : LEQ S s a P g n b lim m T wi c d on i u v true u' true v' := by
  obtain ⟨-, -, hx, hy, h20, hd, hst, hen⟩ := h
  refine ⟨sx, sy, Or.inr ⟨rfl, rfl, ⟨i', hi, hX, hY, ⟨?_, ?_⟩, ⟨e46, ?_, ?_, ?_, e50⟩, h20, hd1, hst.push q1 q2 q3 p170 hst2, hen.kp ha hs sx sy⟩, e186⟩⟩
  · rw [q0, up_o (by decide)]; exact hx.1
  · rw [q0, up_s]
  · rw [ef 47 (by decide) (by decide)]; exact hy.2.1
  · rw [ef 48 (by decide) (by decide)]; exact hy.2.2.1
  · rw [ef 49 (by decide) (by decide)]; exact hy.2.2.2.1
theorem LEQ_bad (sx : SX s u u') (sy : SY v v') (f : Int32) (e : Nat) : LEQ S s a P g n b lim m T wi c d on i u v false (xBad f e u') false (yBad f e v') := ⟨sx.bad f e, sy.bad f e, Or.inl ⟨rfl, rfl, FL_bad f e⟩⟩
theorem j_trod (ha : a = 7 ∨ a = 17) (hs : s = 27 ∨ s = 31) (hP : P ≤ 6) (hS3 : S 3 = nI P) (h : SEM S s a P g n b lim m false T wi c d on i u v) (hc : c < 45) (hd1 : d + 1 ≤ on) : t2 (cl (sh_42 1 u) (fun r4 w3 => if r4 = (-1) then (some (false, w3)) else (cl (sh_44 a r4 w3) (fun r7 w6 => if r7 = (-1) then (cl (sh_36 1 3 w6) (fun r10 w9 => some (r10, w9))) else (cl (sh_165 s 9 0 r7 w6) (fun _ w11 => cl (sh_37 1 w11) (fun _ w13 => some (true, w13)))))))) (oneZ false false 0 v) (LEQ S s a P g n b lim m T wi c d on i u v) := by
  have hS := h
  obtain ⟨hX, hY, hx, hy, h20, hd, hst, hen⟩ := h
  have hT := hX.1.1.2.2.2.1
  unfold oneZ
  refine t2_j2 (t2_ifn2 (by decide) (t2_ifn2 (by decide) (t2_h2 (fun v3 e3 k3 l3 => t2_if2 rfl ?_))))
  have hY3 : YS n b lim m i v3 := hY.up k3 e3 l3 (by decide)
  have sy3 : SY v v3 := SY.oo k3 e3 (by decide)
  have hen3 := hen.kp ha hs SX.refl sy3
  refine t2_2 (y_isName hY3.1 hT hY3.2.2.1) (fun q w' hv => ?_)
  obtain ⟨ew, hv⟩ := hv
  rw [ew]
  by_cases ho : nmOk (tkA n b m i)
  · have hl := tkA_wd hT ho.1
    refine t2_e1 (x_name_ok hX.1 ho) (t2_ifn1 (lN_m1 hl) (t2_if2 (hv.mpr ho) (t2_gd2 (by decide) ?_)))
    rw [show wI v3 (166 + 2) (ix 3) = nI P from hen3.2.2.2]
    refine t2_1 (x_find44 hen.1 hP hen.2.1 hl) (fun x3 w3 h3 => t2_2 (y_find (g := 6) hP (by decide) (y_word17 hY3.1 ho.1).2 hen3.2.2.1 hl) (fun x4 w4 h4 => ?_))
    obtain ⟨ew3, h3⟩ := h3
    obtain ⟨ew4, h4⟩ := h4
    rw [ew3, ew4, fdR_u h4 h3]
    clear h4 ew4 ew3
    rcases h3 with ⟨ev, -⟩ | ⟨k, hk, ev, -, -⟩
    · rw [ev]
      exact t2_if1 rfl (t2_if2 (by decide) (j_bad hX hY3 3 (fun e => t2_end (LEQ_bad SX.refl sy3 3 e))))
    · rw [ev]
      refine t2_ifn1 (n_m1 (by omega)) (t2_ifn2 (show ¬ nI k < nI 0 from nnlt (by omega) (by omega)) (t2_1 (x_put5 hx.2 (by omega) 9 0 (nI k)) (fun _ u5 h5 => t2_2 (y_code (c := c) (by rw [e3, up_o (by decide)]; exact hy.1) hc 0 0 (nI k)) (fun _ v5 g5 => ?_))))
      obtain ⟨k5, q0, q1, q2, q3⟩ := h5
      obtain ⟨y5, L5, e5, p5⟩ := g5
      have hX5 : XQ n b lim m i u5 := hX.kp k5 (fun q h1 h2 => by omega)
      have hY5 : YS n b lim m i v5 := hY3.g (fun j hj => by rw [e5, up_o (by omega)]) L5 (y5.I (by decide))
      refine j_go hX5 hY5 (fun u6 v6 hX6 hY6 p6 q6 => t2_end ?_)
      refine LEQ_on (ca := 9) (cb := 0) (cn := nI k) (x := 0) (y := 0) (z := nI k) hS ha hs nx_ge hX6 hY6 ((SX.ss k5).trans (SX.tt p6)) ((sy3.trans (SY.cc y5 e5)).trans ⟨q6.1.mono (fun q y => Or.inl y), fun j hj => q6.2 j (fun y => hj (Or.elim y Or.inl (fun z => Or.inr (Or.inl z))))⟩) ?_ ?_ ?_ ?_ ?_ ?_ ?_ (fun j h1 h2 => ?_) ?_ hd1 (Or.inr (Or.inr (Or.inr (Or.inl ⟨k, ?_, rfl, rfl, rfl, rfl, rfl, by omega⟩))))
      · rw [p6.I (by omega)]; exact q0
      · rw [p6.I (by omega)]; exact q1
      · rw [p6.I (by omega)]; exact q2
      · rw [p6.I (by omega)]; exact q3
      · rw [q6.1.I (by decide), p5, k3.I (by decide)]
      · rw [q6.2 46 (by unfold nxF; omega), e5, up_s]
      · rw [q6.2 50 (by unfold nxF; omega), e5, up_o (by decide), e3, up_s]
      · rw [q6.2 j (by unfold nxF; omega), e5, up_o (by omega), e3, up_o (by omega)]
      · rw [q6.1.I (by decide), y5.I (by decide), k3.I (by decide)]
      · rw [hS3, ix_nI (by omega)]; exact hk
  · exact t2_e1 (x_name_no hX.1 ho) (t2_if1 rfl (t2_ifn2 (fun z => ho (hv.mp z)) (t2_e2 (y_bad hY3.1 1) (t2_end (LEQ_bad SX.refl sy3 1 _)))))
theorem j_meas {q : Nat} (hq : q < 6) (ha : a = 7 ∨ a = 17) (hs : s = 27 ∨ s = 31) (h : SEM S s a P g n b lim m false T wi c d on i u v) (hc : c < 45) (hd1 : d + 1 ≤ on) : t2 (cl (sh_59 1 u) (fun r6 w5 => jn (fun (s21 : Unit) (w8 : Wd) => cl (sh_37 1 w8) (fun _ w9 => cl (sh_38 1 0 999 w9) (fun r12 w11 => if r12 = (-1) then (some (false, w11)) else (cl (sh_165 s (nI q) r6 r12 w11) (fun _ w14 => some (true, w14)))))) (fun j7 => if r6 = 60 then (j7 () w5) else (if r6 = 61 then (j7 () w5) else (if r6 = 62 then (j7 () w5) else (cl (sh_36 1 1 w5) (fun r20 w19 => some (r20, w19)))))))) (oneZ false false (nI (q + 1)) v) (LEQ S s a P g n b lim m T wi c d on i u v) := by
  have hS := h
  obtain ⟨hX, hY, hx, hy, h20, hd, hst, hen⟩ := h
  have hT := hX.1.1.2.2.2.1
  unfold oneZ
  refine t2_j2 (t2_ifn2 (by decide) (t2_ifn2 (by decide) (t2_h2 (fun v3 e3 k3 l3 => t2_ifn2 (n_ne (b := 0) (by omega) (by omega) (by decide)) ?_))))
  have hY3 : YS n b lim m i v3 := hY.up k3 e3 l3 (by decide)
  have sy3 : SY v v3 := SY.oo k3 e3 (by decide)
  refine t2_e1 (x_signHere hX.1) (t2_j1 ?_)
  by_cases t3 : (tkA n b m i).1 = 3
  · obtain ⟨d1, d2⟩ := tkA_sgn t3
    have y14 := (y_isSgn hY3.1).2 t3
    refine t2_if2 ((y_isSgn hY3.1).1.mpr t3) ?_
    rw [if_pos t3, y14]
    generalize (tkA n b m i).2.headD 0 = hd0 at d1 d2 y14
    by_cases c60 : 60 ≤ hd0
    · refine t2_if2 (show nI 60 ≤ nI hd0 from nle c60 (by omega)) (t2_ifn2 (show ¬ nI 62 < nI hd0 from nnlt d2 (by decide)) (t2_lt2 ?_))
      have fin : t2 (cl (sh_37 1 u) (fun _ w9 => cl (sh_38 1 0 999 w9) (fun r12 w11 => if r12 = (-1) then (some (false, w11)) else (cl (sh_165 s (nI q) (nI hd0) r12 w11) (fun _ w14 => some (true, w14)))))) (cl (sh_191 166 v3) (fun _ w50 => if wI w50 166 11 = 2 then (cl (sh_274 166 (nI (q + 1)) (nI hd0) (wI w50 166 14) w50) (fun _ w53 => cl (sh_191 166 w53) (fun _ w55 => some (true, w55)))) else (cl (sh_197 166 1 w50) (fun r58 w57 => some (r58, w57))))) (LEQ S s a P g n b lim m T wi c d on i u v) := by
        refine j_go hX hY3 (fun u4 v4 hX4 hY4 p4 q4 => ?_)
        have sx4 : SX s u u4 := SX.tt p4
        have sy4 : SY v v4 := sy3.trans ⟨q4.1.mono (fun q y => Or.inl y), fun j hj => q4.2 j (fun y => hj (Or.elim y Or.inl (fun z => Or.inr (Or.inl z))))⟩
        by_cases tn : (tkA n b m (nextN m i)).1 = 2
        · have hv := tkA_num tn
          have ho : numOk (tkA n b m (nextN m i)) 0 999 := ⟨tn, n0le (by omega), nle (b := 999) (by omega) (by decide)⟩
          refine t2_1 (xq_take hX4 ho) (fun x5 u5 g5 => ?_)
          obtain ⟨ex5, hX5, k5, -⟩ := g5
          rw [ex5]
          refine t2_ifn1 (n_m1 hv) (t2_if2 ((y_isNum hY4.1).1.mpr tn) ?_)
          rw [(y_isNum hY4.1).2 tn]
          refine t2_1 (x_put5 (c := c) (by rw [k5.I (by omega), p4.I (by omega)]; exact hx.2) (by omega) (nI q) (nI hd0) _) (fun _ u6 h6 => t2_2 (y_code (c := c) (by rw [q4.2 46 (by unfold nxF; omega), e3, up_o (by decide)]; exact hy.1) hc (nI (q + 1)) (nI hd0) _) (fun _ v5 g5 => ?_))
          obtain ⟨k6, q0, q1, q2, q3⟩ := h6
          obtain ⟨y5, L5, e5, p5⟩ := g5
          have hX6 : XQ n b lim m _ u6 := hX5.kp k6 (fun q h1 h2 => by omega)
          have hY5 : YS n b lim m _ v5 := hY4.g (fun j hj => by rw [e5, up_o (by omega)]) L5 (y5.I (by decide))
          refine t2_2 (ys_go hY5 hT) (fun _ v6 g6 => t2_end ?_)
          obtain ⟨hY6, k7, f7⟩ := g6
          refine LEQ_on (ca := nI q) (cb := nI hd0) (cn := nI ((tkA n b m (nextN m i)).2.headD 0)) (x := nI (q + 1)) (y := nI hd0) (z := nI ((tkA n b m (nextN m i)).2.headD 0)) hS ha hs (Nat.le_trans nx_ge nx_ge) hX6 hY6 ((sx4.trans (SX.tt k5)).trans (SX.ss k6)) ((sy4.trans (SY.cc y5 e5)).trans (SY.nn k7 f7)) ?_ ?_ ?_ ?_ ?_ ?_ ?_ (fun j h1 h2 => ?_) ?_ hd1 (Or.inr (Or.inr (Or.inr (Or.inr ⟨q, hq, rfl, rfl, rfl, rfl, rfl, by omega⟩))))
          · rw [q0, k5.I (by omega), p4.I (by omega)]
          · rw [q1, k5.I (by omega), p4.I (by omega)]
          · rw [q2, k5.I (by omega), p4.I (by omega)]
          · rw [q3, k5.I (by omega), p4.I (by omega)]
          · rw [k7.I (by decide), p5, q4.1.I (by decide), k3.I (by decide)]
          · rw [f7 46 (by unfold nxF; omega), e5, up_s]
          · rw [f7 50 (by unfold nxF; omega), e5, up_o (by decide), q4.2 50 (by unfold nxF; omega), e3, up_s]
          · rw [f7 j (by unfold nxF; omega), e5, up_o (by omega), q4.2 j (by unfold nxF; omega), e3, up_o (by omega)]
          · rw [k7.I (by decide), y5.I (by decide), q4.1.I (by decide), k3.I (by decide)]
        · have hno : ¬ numOk (tkA n b m (nextN m i)) 0 999 := fun z => tn z.1
          have e1 : numC (tkA n b m (nextN m i)) = 1 := if_neg tn
          refine t2_e1 (x_take_no hX4.1 (by decide) hno) (t2_if1 rfl (t2_ifn2 (fun z => tn ((y_isNum hY4.1).1.mp z)) (t2_e2 (y_bad hY4.1 1) (t2_end ?_))))
          rw [e1]
          exact LEQ_bad sx4 sy4 1 _
      have : hd0 = 60 ∨ hd0 = 61 ∨ hd0 = 62 := by omega
      rcases this with y | y | y <;> subst y
      · exact t2_if1 rfl fin
      · exact t2_ifn1 (by decide) (t2_if1 rfl fin)
      · exact t2_ifn1 (by decide) (t2_ifn1 (by decide) (t2_if1 rfl fin))
    · refine t2_ifn1 (n_ne (b := 60) (by omega) (by omega) (by decide)) (t2_ifn1 (n_ne (b := 61) (by omega) (by omega) (by decide)) (t2_ifn1 (n_ne (b := 62) (by omega) (by omega) (by decide)) (t2_ifn2 (show ¬ nI 60 ≤ nI hd0 from nnle (by omega) (by decide)) (j_bad hX hY3 1 (fun e => t2_end (LEQ_bad SX.refl sy3 1 e))))))
  · rw [if_neg t3]
    exact t2_ifn1 (by decide) (t2_ifn1 (by decide) (t2_ifn1 (by decide) (t2_ifn2 (fun z => t3 ((y_isSgn hY3.1).1.mp z)) (j_bad hX hY3 1 (fun e => t2_end (LEQ_bad SX.refl sy3 1 e))))))
end LV
