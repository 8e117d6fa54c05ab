/-! printed by program (wip/whole/gen/sh.py): the methods as programs over worlds, and that the small machine does what they say -/
/-- RugReader$Tape.measuredHere()I -/
def sh_163 (o0 : Nat) (w : Wd) : Option (Int32 × Wd) := cl (sh_33 o0 w) (fun r2 w1 => nul r2 (some ((-1), w1)) (fun a3 => gd (decide (1010 ≤ a3 ∧ a3 < 1030)) (some (zwm (a3 - 1010), w1))))
set_option maxRecDepth 20000 in
set_option maxHeartbeats 4000000 in
theorem ev_163 {d : Nat} (hd : 3 ≤ d) {o0 : Nat} {w : Wd} (hT : TY w) (ho0 : ist o0 7) : sp (sh_163 o0 w) (fun r w' => TY w' ∧ Ev d 163 [.ref o0] w (cvI r) w') := by
  obtain ⟨d, rfl⟩ : ∃ d', d = d' + 1 := ⟨d - 1, by omega⟩
  refine ev_of (M := M163) zin_163 rfl (by decide) rfl (Nat.le_of_ble_eq_true rfl) (Or.inr ⟨o0, _, rfl, ho0⟩) hT ?_
  show sp _ (PP (Ev d) M163 (KR cvI) (0, [(0, .ref o0)], [], w))
  unfold sh_163
  refine s_aload rfl rfl ?_
  refine s_callR [.ref o0] [] rfl rfl (Nat.le_of_ble_eq_true rfl) (ev_33 (d := d) (by omega) hT ho0) (fun r2 w1 hT1 => ?_)
  refine s_astoreRF (x := r2) [(1, va_rf r2)] rfl (subl_c rfl (subl_n)) ?_
  refine s_aloadR (x := r2) rfl rfl ?_
  refine sp_nul (fun h4 => ?_) (fun a3 h4 => ?_)
  · subst h4
    show sp _ (PP _ _ _ (6, [(1, .null)], [.null], w1))
    refine s_nonnull0 rfl ?_
    refine s_const rfl ?_
    refine s_goto rfl ?_
    exact s_retI rfl rfl hT1 (fun _ _ h => h)
  · subst h4
    show sp _ (PP _ _ _ (6, [(1, .ref a3)], [.ref a3], w1))
    refine s_nonnull1 rfl ?_
    refine s_aload rfl rfl ?_
    refine s_getW2 rfl ?_
    exact s_retI rfl rfl hT1 (fun _ _ h => h)
/-- RugReader$Sentence.put(III)V -/
def sh_165 (o0 : Nat) (p1 : Int32) (p2 : Int32) (p3 : Int32) (w : Wd) : Option (Unit × Wd) := if 0 ≤ wI w o0 1 then (if wI w o0 1 < 64 then (gd (ib (wI w o0 1) 64) (stI w (o0 + 1) (ix (wI w o0 1)) p1 (fun w3 => gd (ib (wI w3 o0 1) 64) (stI w3 (o0 + 2) (ix (wI w3 o0 1)) p2 (fun w4 => gd (ib (wI w4 o0 1) 64) (stI w4 (o0 + 3) (ix (wI w4 o0 1)) p3 (fun w5 => stI w5 o0 1 ((wI w5 o0 1) + 1) (fun w6 => some ((), w6))))))))) else (some ((), w))) else (some ((), w))
set_option maxRecDepth 20000 in
set_option maxHeartbeats 4000000 in
theorem ev_165 {d : Nat} (hd : 1 ≤ d) {o0 : Nat} {p1 : Int32} {p2 : Int32} {p3 : Int32} {w : Wd} (hT : TY w) (ho0 : ist o0 6) : sp (sh_165 o0 p1 p2 p3 w) (fun r w' => TY w' ∧ Ev d 165 [.ref o0, .int p1, .int p2, .int p3] w (cvV r) w') := by
  obtain ⟨d, rfl⟩ : ∃ d', d = d' + 1 := ⟨d - 1, by omega⟩
  refine ev_of (M := M165) zin_165 rfl (by decide) rfl (Nat.le_of_ble_eq_true rfl) (Or.inr ⟨o0, _, rfl, ho0⟩) hT ?_
  show sp _ (PP (Ev d) M165 (KR cvV) (0, [(0, .ref o0), (1, .int p1), (2, .int p2), (3, .int p3)], [], w))
  unfold sh_165
  refine s_aload rfl rfl ?_
  refine s_getI rfl hT ho0 ?_
  refine sp_ite (fun h1 => ?_) (fun h1 => ?_)
  · refine s_if0 rfl (zc_lt0 h1) ?_
    refine s_aload rfl rfl ?_
    refine s_getI rfl hT ho0 ?_
    refine s_const rfl ?_
    refine sp_ite (fun h2 => ?_) (fun h2 => ?_)
    · refine s_ic0 rfl (zc_ge0 h2) ?_
      refine s_aload rfl rfl ?_
      refine s_getF rfl hT ho0 rfl ?_
      refine s_aload rfl rfl ?_
      refine s_getI rfl hT ho0 ?_
      refine s_iload rfl rfl ?_
      refine s_iast rfl hT (of_6_2 ho0) (fun w3 hT3 => ?_)
      refine s_aload rfl rfl ?_
      refine s_getF rfl hT3 ho0 rfl ?_
      refine s_aload rfl rfl ?_
      refine s_getI rfl hT3 ho0 ?_
      refine s_iload rfl rfl ?_
      refine s_iast rfl hT3 (of_6_3 ho0) (fun w4 hT4 => ?_)
      refine s_aload rfl rfl ?_
      refine s_getF rfl hT4 ho0 rfl ?_
      refine s_aload rfl rfl ?_
      refine s_getI rfl hT4 ho0 ?_
      refine s_iload rfl rfl ?_
      refine s_iast rfl hT4 (of_6_4 ho0) (fun w5 hT5 => ?_)
      refine s_aload rfl rfl ?_
      refine s_dup rfl rfl ?_
      refine s_getI rfl hT5 ho0 ?_
      refine s_const rfl ?_
      refine s_bin rfl rfl ?_
      refine s_putI rfl hT5 ho0 rfl (fun w6 hT6 => ?_)
      exact s_retV rfl rfl hT6 (fun _ _ h => h)
    · refine s_ic1 rfl (zc_ge1 h2) ?_
      exact s_retV rfl rfl hT (fun _ _ h => h)
  · refine s_if1 rfl (zc_lt1 h1) ?_
    exact s_retV rfl rfl hT (fun _ _ h => h)
/-- RugReader$Sentence.takeTrod(LRugReader$Tape;LRugReader$House;)Z -/
def sh_164 (o0 : Nat) (o1 : Nat) (o2 : Nat) (w : Wd) : Option (Bool × Wd) := cl (sh_37 o1 w) (fun _ w1 => cl (sh_42 o1 w1) (fun r4 w3 => if r4 = (-1) then (some (false, w3)) else (cl (sh_44 o2 r4 w3) (fun r7 w6 => if r7 = (-1) then (cl (sh_36 o1 3 w6) (fun r10 w9 => some (r10, w9))) else (cl (sh_165 o0 9 0 r7 w6) (fun _ w11 => cl (sh_37 o1 w11) (fun _ w13 => some (true, w13))))))))
set_option maxRecDepth 20000 in
set_option maxHeartbeats 4000000 in
theorem ev_164 {d : Nat} (hd : 3 ≤ d) {o0 : Nat} {o1 : Nat} {o2 : Nat} {w : Wd} (hT : TY w) (ho0 : ist o0 6) (ho1 : ist o1 7) (ho2 : ist o2 1) : sp (sh_164 o0 o1 o2 w) (fun r w' => TY w' ∧ Ev d 164 [.ref o0, .ref o1, .ref o2] w (cvZ r) w') := by
  obtain ⟨d, rfl⟩ : ∃ d', d = d' + 1 := ⟨d - 1, by omega⟩
  refine ev_of (M := M164) zin_164 rfl (by decide) rfl (Nat.le_of_ble_eq_true rfl) (Or.inr ⟨o0, _, rfl, ho0⟩) hT ?_
  show sp _ (PP (Ev d) M164 (KR cvZ) (0, [(0, .ref o0), (1, .ref o1), (2, .ref o2)], [], w))
  unfold sh_164
  refine s_aload rfl rfl ?_
  refine s_callV [.ref o1] [] rfl rfl (Nat.le_of_ble_eq_true rfl) (ev_37 (d := d) (by omega) hT ho1) (fun _ w1 hT1 => ?_)
  refine s_aload rfl rfl ?_
  refine s_callL [.ref o1] [] rfl rfl (Nat.le_of_ble_eq_true rfl) (ev_42 (d := d) (by omega) hT1 ho1) (fun r4 w3 hT3 => ?_)
  refine s_lstoreF [(0, .ref o0), (1, .ref o1), (2, .ref o2), (3, .long r4)] rfl (subl_c rfl (subl_c rfl (subl_c rfl (subl_c rfl (subl_n))))) ?_
  refine s_lload rfl rfl ?_
  refine s_lconst (x := (-1)) rfl rfl ?_
  refine s_lcmp rfl ?_
  refine sp_ite (fun h5 => ?_) (fun h5 => ?_)
  · refine s_if0 rfl (zl_ne0 h5) ?_
    refine s_const rfl ?_
    exact s_retZ (z := false) rfl rfl hT3 (fun _ _ h => h)
  · refine s_if1 rfl (zl_ne1 h5) ?_
    refine s_aload rfl rfl ?_
    refine s_lload rfl rfl ?_
    refine s_callI [.ref o2, .long r4] [] rfl rfl (Nat.le_of_ble_eq_true rfl) (ev_44 (d := d) (by omega) hT3 ho2) (fun r7 w6 hT6 => ?_)
    refine s_istoreF [(0, .ref o0), (1, .ref o1), (5, .int r7)] rfl (subl_c rfl (subl_c rfl (subl_c rfl (subl_n)))) ?_
    refine s_iload rfl rfl ?_
    refine s_const rfl ?_
    refine sp_ite (fun h8 => ?_) (fun h8 => ?_)
    · refine s_ic0 rfl (zc_ne0 h8) ?_
      refine s_aload rfl rfl ?_
      refine s_const rfl ?_
      refine s_callZ [.ref o1, .int 3] [] rfl rfl (Nat.le_of_ble_eq_true rfl) (ev_36 (d := d) (by omega) hT6 ho1) (fun r10 w9 hT9 => ?_)
      exact s_retZ (z := r10) rfl rfl hT9 (fun _ _ h => h)
    · refine s_ic1 rfl (zc_ne1 h8) ?_
      refine s_aload rfl rfl ?_
      refine s_const rfl ?_
      refine s_const rfl ?_
      refine s_iload rfl rfl ?_
      refine s_callV [.ref o0, .int 9, .int 0, .int r7] [] rfl rfl (Nat.le_of_ble_eq_true rfl) (ev_165 (d := d) (by omega) hT6 ho0) (fun _ w11 hT11 => ?_)
      refine s_aload rfl rfl ?_
      refine s_callV [.ref o1] [] rfl rfl (Nat.le_of_ble_eq_true rfl) (ev_37 (d := d) (by omega) hT11 ho1) (fun _ w13 hT13 => ?_)
      refine s_const rfl ?_
      exact s_retZ (z := true) rfl rfl hT13 (fun _ _ h => h)
/-- RugReader$Sentence.takeMeasure(LRugReader$Tape;)Z -/
def sh_166 (o0 : Nat) (o1 : Nat) (w : Wd) : Option (Bool × Wd) := cl (sh_163 o1 w) (fun r2 w1 => cl (sh_37 o1 w1) (fun _ w3 => cl (sh_59 o1 w3) (fun r6 w5 => jn (fun (s21 : Unit) (w8 : Wd) => cl (sh_37 o1 w8) (fun _ w9 => cl (sh_38 o1 0 999 w9) (fun r12 w11 => if r12 = (-1) then (some (false, w11)) else (cl (sh_165 o0 r2 r6 r12 w11) (fun _ w14 => some (true, w14)))))) (fun j7 => if r6 = 60 then (j7 () w5) else (if r6 = 61 then (j7 () w5) else (if r6 = 62 then (j7 () w5) else (cl (sh_36 o1 1 w5) (fun r20 w19 => some (r20, w19)))))))))
set_option maxRecDepth 20000 in
set_option maxHeartbeats 4000000 in
theorem ev_166 {d : Nat} (hd : 4 ≤ d) {o0 : Nat} {o1 : Nat} {w : Wd} (hT : TY w) (ho0 : ist o0 6) (ho1 : ist o1 7) : sp (sh_166 o0 o1 w) (fun r w' => TY w' ∧ Ev d 166 [.ref o0, .ref o1] w (cvZ r) w') := by
  obtain ⟨d, rfl⟩ : ∃ d', d = d' + 1 := ⟨d - 1, by omega⟩
  refine ev_of (M := M166) zin_166 rfl (by decide) rfl (Nat.le_of_ble_eq_true rfl) (Or.inr ⟨o0, _, rfl, ho0⟩) hT ?_
  show sp _ (PP (Ev d) M166 (KR cvZ) (0, [(0, .ref o0), (1, .ref o1)], [], w))
  unfold sh_166
  refine s_aload rfl rfl ?_
  refine s_callI [.ref o1] [] rfl rfl (Nat.le_of_ble_eq_true rfl) (ev_163 (d := d) (by omega) hT ho1) (fun r2 w1 hT1 => ?_)
  refine s_istoreF [(0, .ref o0), (1, .ref o1), (2, .int r2)] rfl (subl_c rfl (subl_c rfl (subl_c rfl (subl_n)))) ?_
  refine s_aload rfl rfl ?_
  refine s_callV [.ref o1] [] rfl rfl (Nat.le_of_ble_eq_true rfl) (ev_37 (d := d) (by omega) hT1 ho1) (fun _ w3 hT3 => ?_)
  refine s_aload rfl rfl ?_
  refine s_callI [.ref o1] [] rfl rfl (Nat.le_of_ble_eq_true rfl) (ev_59 (d := d) (by omega) hT3 ho1) (fun r6 w5 hT5 => ?_)
  refine s_istoreF [(0, .ref o0), (1, .ref o1), (2, .int r2), (3, .int r6)] rfl (subl_c rfl (subl_c rfl (subl_c rfl (subl_c rfl (subl_n))))) ?_
  refine s_iload rfl rfl ?_
  refine s_const rfl ?_
  refine s_jnP (fun (s21 : Unit) w => (38, [(0, .ref o0), (1, .ref o1), (2, .int r2), (3, .int r6)], [], w)) (fun s21 w8 hT8 => ?_) (fun j7 hj7 => ?_)
  · show sp _ (PP _ _ _ (38, [(0, .ref o0), (1, .ref o1), (2, .int r2), (3, .int r6)], [], w8))
    refine s_aload rfl rfl ?_
    refine s_callV [.ref o1] [] rfl rfl (Nat.le_of_ble_eq_true rfl) (ev_37 (d := d) (by omega) hT8 ho1) (fun _ w9 hT9 => ?_)
    refine s_aload rfl rfl ?_
    refine s_const rfl ?_
    refine s_const rfl ?_
    refine s_callI [.ref o1, .int 0, .int 999] [] rfl rfl (Nat.le_of_ble_eq_true rfl) (ev_38 (d := d) (by omega) hT9 ho1) (fun r12 w11 hT11 => ?_)
    refine s_istoreF [(0, .ref o0), (2, .int r2), (3, .int r6), (4, .int r12)] rfl (subl_c rfl (subl_c rfl (subl_c rfl (subl_c rfl (subl_n))))) ?_
    refine s_iload rfl rfl ?_
    refine s_const rfl ?_
    refine sp_ite (fun h13 => ?_) (fun h13 => ?_)
    · refine s_ic0 rfl (zc_ne0 h13) ?_
      refine s_const rfl ?_
      exact s_retZ (z := false) rfl rfl hT11 (fun _ _ h => h)
    · refine s_ic1 rfl (zc_ne1 h13) ?_
      refine s_aload rfl rfl ?_
      refine s_iload rfl rfl ?_
      refine s_iload rfl rfl ?_
      refine s_iload rfl rfl ?_
      refine s_callV [.ref o0, .int r2, .int r6, .int r12] [] rfl rfl (Nat.le_of_ble_eq_true rfl) (ev_165 (d := d) (by omega) hT11 ho0) (fun _ w14 hT14 => ?_)
      refine s_const rfl ?_
      exact s_retZ (z := true) rfl rfl hT14 (fun _ _ h => h)
  · refine sp_ite (fun h16 => ?_) (fun h16 => ?_)
    · refine s_ic1 rfl (zc_eq1 h16) ?_
      exact s_fgt _ (subl_c rfl (subl_c rfl (subl_c rfl (subl_c rfl (subl_n))))) (hj7 () w5 hT5)
    · refine s_ic0 rfl (zc_eq0 h16) ?_
      refine s_iload rfl rfl ?_
      refine s_const rfl ?_
      refine sp_ite (fun h17 => ?_) (fun h17 => ?_)
      · refine s_ic1 rfl (zc_eq1 h17) ?_
        exact s_fgt _ (subl_c rfl (subl_c rfl (subl_c rfl (subl_c rfl (subl_n))))) (hj7 () w5 hT5)
      · refine s_ic0 rfl (zc_eq0 h17) ?_
        refine s_iload rfl rfl ?_
        refine s_const rfl ?_
        refine sp_ite (fun h18 => ?_) (fun h18 => ?_)
        · refine s_ic1 rfl (zc_eq1 h18) ?_
          exact s_fgt _ (subl_c rfl (subl_c rfl (subl_c rfl (subl_c rfl (subl_n))))) (hj7 () w5 hT5)
        · refine s_ic0 rfl (zc_eq0 h18) ?_
          refine s_aload rfl rfl ?_
          refine s_const rfl ?_
          refine s_callZ [.ref o1, .int 1] [] rfl rfl (Nat.le_of_ble_eq_true rfl) (ev_36 (d := d) (by omega) hT5 ho1) (fun r20 w19 hT19 => ?_)
          exact s_retZ (z := r20) rfl rfl hT19 (fun _ _ h => h)
/-- RugReader$Sentence.takeCond(LRugReader$Tape;LRugReader$House;I)Z, by those that it calls -/
def sb_160 (f161 : Nat → Nat → Nat → Int32 → Wd → Option (Bool × Wd)) (o0 : Nat) (o1 : Nat) (o2 : Nat) (p3 : Int32) (w : Wd) : Option (Bool × Wd) := cl (f161 o0 o1 o2 p3 w) (fun r2 w1 => if r2 = true then (itM (fun (v4_4 : Int32) (w6 : Wd) => if v4_4 < 20 then (cl (sh_33 o1 w6) (fun r9 w8 => gd (zwk (r9)) (gd (zwk (some 1020)) (if r9 = some 1020 then (cl (sh_37 o1 w8) (fun _ w13 => cl (f161 o0 o1 o2 p3 w13) (fun r16 w15 => if r16 = true then (cl (sh_165 o0 8 0 0 w15) (fun _ w18 => lt (v4_4 + 1 : Int32) (fun v4_20 => some (.inl v4_20, w18)))) else (some (.inr (false), w15))))) else (some (.inr (true), w8)))))) else (some (.inr (true), w6))) FU 0 w1) else (some (false, w1)))
set_option maxRecDepth 20000 in
set_option maxHeartbeats 4000000 in
theorem eb_160 {d : Nat} (hd : 4 ≤ d) {f161 : Nat → Nat → Nat → Int32 → Wd → Option (Bool × Wd)} (hf161 : ∀ (o0 : Nat) (o1 : Nat) (o2 : Nat) (p3 : Int32) (w : Wd), TY w → ist o0 6 → ist o1 7 → ist o2 1 → sp (f161 o0 o1 o2 p3 w) (fun r w' => TY w' ∧ Ev d 161 [.ref o0, .ref o1, .ref o2, .int p3] w (cvZ r) w')) {o0 : Nat} {o1 : Nat} {o2 : Nat} {p3 : Int32} {w : Wd} (hT : TY w) (ho0 : ist o0 6) (ho1 : ist o1 7) (ho2 : ist o2 1) : sp (sb_160 f161 o0 o1 o2 p3 w) (fun r w' => TY w' ∧ Ev (d + 1) 160 [.ref o0, .ref o1, .ref o2, .int p3] w (cvZ r) w') := by
  refine ev_of (M := M160) zin_160 rfl (by decide) rfl (Nat.le_of_ble_eq_true rfl) (Or.inr ⟨o0, _, rfl, ho0⟩) hT ?_
  show sp _ (PP (Ev d) M160 (KR cvZ) (0, [(0, .ref o0), (1, .ref o1), (2, .ref o2), (3, .int p3)], [], w))
  unfold sb_160
  refine s_aload rfl rfl ?_
  refine s_aload rfl rfl ?_
  refine s_aload rfl rfl ?_
  refine s_iload rfl rfl ?_
  refine s_callZ [.ref o0, .ref o1, .ref o2, .int p3] [] rfl rfl (Nat.le_of_ble_eq_true rfl) (hf161 o0 o1 o2 p3 w hT ho0 ho1 ho2) (fun r2 w1 hT1 => ?_)
  refine sp_ite (fun h3 => ?_) (fun h3 => ?_)
  · refine s_if1 rfl (zb_ne1 h3) ?_
    refine s_const rfl ?_
    refine s_istoreF [(0, .ref o0), (1, .ref o1), (2, .ref o2), (3, .int p3), (4, .int 0)] rfl (subl_c rfl (subl_c rfl (subl_c rfl (subl_c rfl (subl_c rfl (subl_n)))))) ?_
    let lvL5 : Int32 → List (Nat × Value) := fun s21 => [(0, .ref o0), (1, .ref o1), (2, .ref o2), (3, .int p3), (4, .int s21)]
    refine s_loop lvL5 (subl_c rfl (subl_c rfl (subl_c rfl (subl_c rfl (subl_c rfl (subl_n)))))) hT1 (fun v4_4 w6 hT6 => ?_)
    show sp _ (PP _ _ _ (15, [(0, .ref o0), (1, .ref o1), (2, .ref o2), (3, .int p3), (4, .int v4_4)], [], w6))
    refine s_iload rfl rfl ?_
    refine s_const rfl ?_
    refine sp_ite (fun h7 => ?_) (fun h7 => ?_)
    · refine s_ic0 rfl (zc_ge0 h7) ?_
      refine s_aload rfl rfl ?_
      refine s_callR [.ref o1] [] rfl rfl (Nat.le_of_ble_eq_true rfl) (ev_33 (d := d) (by omega) hT6 ho1) (fun r9 w8 hT8 => ?_)
      refine s_static rfl ?_
      refine sp_gd (fun h11 => ?_)
      refine sp_gd (fun h12 => ?_)
      refine sp_ite (fun h10 => ?_) (fun h10 => ?_)
      · refine s_acn (x := r9) (y := some 1020) rfl h11 h12 (fun q => absurd h10 q) (fun _ => ?_)
        refine s_aload rfl rfl ?_
        refine s_callV [.ref o1] [] rfl rfl (Nat.le_of_ble_eq_true rfl) (ev_37 (d := d) (by omega) hT8 ho1) (fun _ w13 hT13 => ?_)
        refine s_aload rfl rfl ?_
        refine s_aload rfl rfl ?_
        refine s_aload rfl rfl ?_
        refine s_iload rfl rfl ?_
        refine s_callZ [.ref o0, .ref o1, .ref o2, .int p3] [] rfl rfl (Nat.le_of_ble_eq_true rfl) (hf161 o0 o1 o2 p3 w13 hT13 ho0 ho1 ho2) (fun r16 w15 hT15 => ?_)
        refine sp_ite (fun h17 => ?_) (fun h17 => ?_)
        · refine s_if1 rfl (zb_ne1 h17) ?_
          refine s_aload rfl rfl ?_
          refine s_const rfl ?_
          refine s_const rfl ?_
          refine s_const rfl ?_
          refine s_callV [.ref o0, .int 8, .int 0, .int 0] [] rfl rfl (Nat.le_of_ble_eq_true rfl) (ev_165 (d := d) (by omega) hT15 ho0) (fun _ w18 hT18 => ?_)
          refine s_iincF (fun v4_20 => [(0, .ref o0), (1, .ref o1), (2, .ref o2), (3, .int p3), (4, .int v4_20)]) rfl rfl (fun _ => subl_c rfl (subl_c rfl (subl_c rfl (subl_c rfl (subl_c rfl (subl_n)))))) (fun v4_20 => ?_)
          refine s_goto rfl ?_
          exact s_back (lvL := lvL5) (s' := v4_20) (subl_c rfl (subl_c rfl (subl_c rfl (subl_c rfl (subl_c rfl (subl_n)))))) hT18 (fun _ _ h => h)
        · refine s_if0 rfl (zb_ne0 h17) ?_
          refine s_const rfl ?_
          exact s_retZ (z := false) rfl rfl hT15 (fun _ _ h => h)
      · refine s_acn (x := r9) (y := some 1020) rfl h11 h12 (fun _ => ?_) (fun q => absurd q h10)
        refine s_const rfl ?_
        exact s_retZ (z := true) rfl rfl hT8 (fun _ _ h => h)
    · refine s_ic1 rfl (zc_ge1 h7) ?_
      refine s_const rfl ?_
      exact s_retZ (z := true) rfl rfl hT6 (fun _ _ h => h)
  · refine s_if0 rfl (zb_ne0 h3) ?_
    refine s_const rfl ?_
    exact s_retZ (z := false) rfl rfl hT1 (fun _ _ h => h)
/-- RugReader$Sentence.takeAll(LRugReader$Tape;LRugReader$House;I)Z, by those that it calls -/
def sb_161 (f162 : Nat → Nat → Nat → Int32 → Wd → Option (Bool × Wd)) (o0 : Nat) (o1 : Nat) (o2 : Nat) (p3 : Int32) (w : Wd) : Option (Bool × Wd) := cl (f162 o0 o1 o2 p3 w) (fun r2 w1 => if r2 = true then (itM (fun (v4_4 : Int32) (w6 : Wd) => if v4_4 < 20 then (cl (sh_33 o1 w6) (fun r9 w8 => gd (zwk (r9)) (gd (zwk (some 1021)) (if r9 = some 1021 then (cl (sh_37 o1 w8) (fun _ w13 => cl (f162 o0 o1 o2 p3 w13) (fun r16 w15 => if r16 = true then (cl (sh_165 o0 7 0 0 w15) (fun _ w18 => lt (v4_4 + 1 : Int32) (fun v4_20 => some (.inl v4_20, w18)))) else (some (.inr (false), w15))))) else (some (.inr (true), w8)))))) else (some (.inr (true), w6))) FU 0 w1) else (some (false, w1)))
set_option maxRecDepth 20000 in
set_option maxHeartbeats 4000000 in
theorem eb_161 {d : Nat} (hd : 4 ≤ d) {f162 : Nat → Nat → Nat → Int32 → Wd → Option (Bool × Wd)} (hf162 : ∀ (o0 : Nat) (o1 : Nat) (o2 : Nat) (p3 : Int32) (w : Wd), TY w → ist o0 6 → ist o1 7 → ist o2 1 → sp (f162 o0 o1 o2 p3 w) (fun r w' => TY w' ∧ Ev d 162 [.ref o0, .ref o1, .ref o2, .int p3] w (cvZ r) w')) {o0 : Nat} {o1 : Nat} {o2 : Nat} {p3 : Int32} {w : Wd} (hT : TY w) (ho0 : ist o0 6) (ho1 : ist o1 7) (ho2 : ist o2 1) : sp (sb_161 f162 o0 o1 o2 p3 w) (fun r w' => TY w' ∧ Ev (d + 1) 161 [.ref o0, .ref o1, .ref o2, .int p3] w (cvZ r) w') := by
  refine ev_of (M := M161) zin_161 rfl (by decide) rfl (Nat.le_of_ble_eq_true rfl) (Or.inr ⟨o0, _, rfl, ho0⟩) hT ?_
  show sp _ (PP (Ev d) M161 (KR cvZ) (0, [(0, .ref o0), (1, .ref o1), (2, .ref o2), (3, .int p3)], [], w))
  unfold sb_161
  refine s_aload rfl rfl ?_
  refine s_aload rfl rfl ?_
  refine s_aload rfl rfl ?_
  refine s_iload rfl rfl ?_
  refine s_callZ [.ref o0, .ref o1, .ref o2, .int p3] [] rfl rfl (Nat.le_of_ble_eq_true rfl) (hf162 o0 o1 o2 p3 w hT ho0 ho1 ho2) (fun r2 w1 hT1 => ?_)
  refine sp_ite (fun h3 => ?_) (fun h3 => ?_)
  · refine s_if1 rfl (zb_ne1 h3) ?_
    refine s_const rfl ?_
    refine s_istoreF [(0, .ref o0), (1, .ref o1), (2, .ref o2), (3, .int p3), (4, .int 0)] rfl (subl_c rfl (subl_c rfl (subl_c rfl (subl_c rfl (subl_c rfl (subl_n)))))) ?_
    let lvL5 : Int32 → List (Nat × Value) := fun s21 => [(0, .ref o0), (1, .ref o1), (2, .ref o2), (3, .int p3), (4, .int s21)]
    refine s_loop lvL5 (subl_c rfl (subl_c rfl (subl_c rfl (subl_c rfl (subl_c rfl (subl_n)))))) hT1 (fun v4_4 w6 hT6 => ?_)
    show sp _ (PP _ _ _ (15, [(0, .ref o0), (1, .ref o1), (2, .ref o2), (3, .int p3), (4, .int v4_4)], [], w6))
    refine s_iload rfl rfl ?_
    refine s_const rfl ?_
    refine sp_ite (fun h7 => ?_) (fun h7 => ?_)
    · refine s_ic0 rfl (zc_ge0 h7) ?_
      refine s_aload rfl rfl ?_
      refine s_callR [.ref o1] [] rfl rfl (Nat.le_of_ble_eq_true rfl) (ev_33 (d := d) (by omega) hT6 ho1) (fun r9 w8 hT8 => ?_)
      refine s_static rfl ?_
      refine sp_gd (fun h11 => ?_)
      refine sp_gd (fun h12 => ?_)
      refine sp_ite (fun h10 => ?_) (fun h10 => ?_)
      · refine s_acn (x := r9) (y := some 1021) rfl h11 h12 (fun q => absurd h10 q) (fun _ => ?_)
        refine s_aload rfl rfl ?_
        refine s_callV [.ref o1] [] rfl rfl (Nat.le_of_ble_eq_true rfl) (ev_37 (d := d) (by omega) hT8 ho1) (fun _ w13 hT13 => ?_)
        refine s_aload rfl rfl ?_
        refine s_aload rfl rfl ?_
        refine s_aload rfl rfl ?_
        refine s_iload rfl rfl ?_
        refine s_callZ [.ref o0, .ref o1, .ref o2, .int p3] [] rfl rfl (Nat.le_of_ble_eq_true rfl) (hf162 o0 o1 o2 p3 w13 hT13 ho0 ho1 ho2) (fun r16 w15 hT15 => ?_)
        refine sp_ite (fun h17 => ?_) (fun h17 => ?_)
        · refine s_if1 rfl (zb_ne1 h17) ?_
          refine s_aload rfl rfl ?_
          refine s_const rfl ?_
          refine s_const rfl ?_
          refine s_const rfl ?_
          refine s_callV [.ref o0, .int 7, .int 0, .int 0] [] rfl rfl (Nat.le_of_ble_eq_true rfl) (ev_165 (d := d) (by omega) hT15 ho0) (fun _ w18 hT18 => ?_)
          refine s_iincF (fun v4_20 => [(0, .ref o0), (1, .ref o1), (2, .ref o2), (3, .int p3), (4, .int v4_20)]) rfl rfl (fun _ => subl_c rfl (subl_c rfl (subl_c rfl (subl_c rfl (subl_c rfl (subl_n)))))) (fun v4_20 => ?_)
          refine s_goto rfl ?_
          exact s_back (lvL := lvL5) (s' := v4_20) (subl_c rfl (subl_c rfl (subl_c rfl (subl_c rfl (subl_c rfl (subl_n)))))) hT18 (fun _ _ h => h)
        · refine s_if0 rfl (zb_ne0 h17) ?_
          refine s_const rfl ?_
          exact s_retZ (z := false) rfl rfl hT15 (fun _ _ h => h)
      · refine s_acn (x := r9) (y := some 1021) rfl h11 h12 (fun _ => ?_) (fun q => absurd q h10)
        refine s_const rfl ?_
        exact s_retZ (z := true) rfl rfl hT8 (fun _ _ h => h)
    · refine s_ic1 rfl (zc_ge1 h7) ?_
      refine s_const rfl ?_
      exact s_retZ (z := true) rfl rfl hT6 (fun _ _ h => h)
  · refine s_if0 rfl (zb_ne0 h3) ?_
    refine s_const rfl ?_
    exact s_retZ (z := false) rfl rfl hT1 (fun _ _ h => h)
/-- RugReader$Sentence.takeOne(LRugReader$Tape;LRugReader$House;I)Z, by those that it calls -/
def sb_162 (f160 : Nat → Nat → Nat → Int32 → Wd → Option (Bool × Wd)) (f162 : Nat → Nat → Nat → Int32 → Wd → Option (Bool × Wd)) (o0 : Nat) (o1 : Nat) (o2 : Nat) (p3 : Int32) (w : Wd) : Option (Bool × Wd) := cl (sh_33 o1 w) (fun r2 w1 => jn (fun (t4 : Bool) (w5 : Wd) => cl (sh_59 o1 w5) (fun r7 w6 => lt (if r7 = 40 then true else false : Bool) (fun z8 => cl (sh_33 o1 w6) (fun r10 w9 => jn (fun (t12 : Bool) (w13 : Wd) => jn (fun (s53 : Unit) (w15 : Wd) => if wI w15 o0 0 < 20 then (if 8 ≤ p3 then (cl (sh_36 o1 4 w15) (fun r19 w18 => some (r19, w18))) else (stI w15 o0 0 ((wI w15 o0 0) + 1) (fun w20 => if z8 = true then (cl (sh_37 o1 w20) (fun _ w22 => cl (f160 o0 o1 o2 (p3 + 1) w22) (fun r25 w24 => if r25 = true then (cl (sh_58 o1 41 w24) (fun r28 w27 => if r28 = true then (some (true, w27)) else (some (false, w27)))) else (some (false, w24))))) else (if t12 = true then (cl (sh_164 o0 o1 o2 w20) (fun r32 w31 => some (r32, w31))) else (if t4 = true then (cl (sh_37 o1 w20) (fun _ w34 => cl (f162 o0 o1 o2 (p3 + 1) w34) (fun r37 w36 => if r37 = true then (cl (sh_165 o0 6 0 0 w36) (fun _ w39 => some (true, w39))) else (some (false, w36))))) else (cl (sh_166 o0 o1 w20) (fun r42 w41 => some (r42, w41)))))))) else (cl (sh_36 o1 4 w15) (fun r44 w43 => some (r44, w43)))) (fun j14 => if t4 = true then (j14 () w13) else (if z8 = true then (j14 () w13) else (if t12 = true then (j14 () w13) else (cl (sh_163 o1 w13) (fun r49 w48 => if r49 = (-1) then (cl (sh_36 o1 1 w48) (fun r52 w51 => some (r52, w51))) else (j14 () w48))))))) (fun j11 => gd (zwk (r10)) (gd (zwk (some 1023)) (if r10 = some 1023 then (j11 true w9) else (j11 false w9)))))))) (fun j3 => gd (zwk (r2)) (gd (zwk (some 1022)) (if r2 = some 1022 then (j3 true w1) else (j3 false w1)))))
set_option maxRecDepth 20000 in
set_option maxHeartbeats 4000000 in
theorem eb_162 {d : Nat} (hd : 4 ≤ d) {f160 : Nat → Nat → Nat → Int32 → Wd → Option (Bool × Wd)} {f162 : Nat → Nat → Nat → Int32 → Wd → Option (Bool × Wd)} (hf160 : ∀ (o0 : Nat) (o1 : Nat) (o2 : Nat) (p3 : Int32) (w : Wd), TY w → ist o0 6 → ist o1 7 → ist o2 1 → sp (f160 o0 o1 o2 p3 w) (fun r w' => TY w' ∧ Ev d 160 [.ref o0, .ref o1, .ref o2, .int p3] w (cvZ r) w')) (hf162 : ∀ (o0 : Nat) (o1 : Nat) (o2 : Nat) (p3 : Int32) (w : Wd), TY w → ist o0 6 → ist o1 7 → ist o2 1 → sp (f162 o0 o1 o2 p3 w) (fun r w' => TY w' ∧ Ev d 162 [.ref o0, .ref o1, .ref o2, .int p3] w (cvZ r) w')) {o0 : Nat} {o1 : Nat} {o2 : Nat} {p3 : Int32} {w : Wd} (hT : TY w) (ho0 : ist o0 6) (ho1 : ist o1 7) (ho2 : ist o2 1) : sp (sb_162 f160 f162 o0 o1 o2 p3 w) (fun r w' => TY w' ∧ Ev (d + 1) 162 [.ref o0, .ref o1, .ref o2, .int p3] w (cvZ r) w') := by
  refine ev_of (M := M162) zin_162 rfl (by decide) rfl (Nat.le_of_ble_eq_true rfl) (Or.inr ⟨o0, _, rfl, ho0⟩) hT ?_
  show sp _ (PP (Ev d) M162 (KR cvZ) (0, [(0, .ref o0), (1, .ref o1), (2, .ref o2), (3, .int p3)], [], w))
  unfold sb_162
  refine s_aload rfl rfl ?_
  refine s_callR [.ref o1] [] rfl rfl (Nat.le_of_ble_eq_true rfl) (ev_33 (d := d) (by omega) hT ho1) (fun r2 w1 hT1 => ?_)
  refine s_static rfl ?_
  refine s_jnP (fun (s63 : Bool) w => (15, [(0, .ref o0), (1, .ref o1), (2, .ref o2), (3, .int p3)], [.int (bi s63)], w)) (fun t4 w5 hT5 => ?_) (fun j3 hj3 => ?_)
  · show sp _ (PP _ _ _ (15, [(0, .ref o0), (1, .ref o1), (2, .ref o2), (3, .int p3)], [.int (bi t4)], w5))
    refine s_istoreF [(0, .ref o0), (1, .ref o1), (2, .ref o2), (3, .int p3), (4, .int (bi t4))] rfl (subl_c rfl (subl_c rfl (subl_c rfl (subl_c rfl (subl_c rfl (subl_n)))))) ?_
    refine s_aload rfl rfl ?_
    refine s_callI [.ref o1] [] rfl rfl (Nat.le_of_ble_eq_true rfl) (ev_59 (d := d) (by omega) hT5 ho1) (fun r7 w6 hT6 => ?_)
    refine s_const rfl ?_
    refine sp_lt (fun z8 hz8 => ?_)
    refine s_dia (31, [(0, .ref o0), (1, .ref o1), (2, .ref o2), (3, .int p3), (4, .int (bi t4))], [.int (bi z8)], w6) ?_ (fun hk58 => ?_)
    · refine s_istoreF [(0, .ref o0), (1, .ref o1), (2, .ref o2), (3, .int p3), (4, .int (bi t4)), (5, .int (bi z8))] rfl (subl_c rfl (subl_c rfl (subl_c rfl (subl_c rfl (subl_c rfl (subl_c rfl (subl_n))))))) ?_
      refine s_aload rfl rfl ?_
      refine s_callR [.ref o1] [] rfl rfl (Nat.le_of_ble_eq_true rfl) (ev_33 (d := d) (by omega) hT6 ho1) (fun r10 w9 hT9 => ?_)
      refine s_static rfl ?_
      refine s_jnP (fun (s57 : Bool) w => (48, [(0, .ref o0), (1, .ref o1), (2, .ref o2), (3, .int p3), (4, .int (bi t4)), (5, .int (bi z8))], [.int (bi s57)], w)) (fun t12 w13 hT13 => ?_) (fun j11 hj11 => ?_)
      · show sp _ (PP _ _ _ (48, [(0, .ref o0), (1, .ref o1), (2, .ref o2), (3, .int p3), (4, .int (bi t4)), (5, .int (bi z8))], [.int (bi t12)], w13))
        refine s_istoreF [(0, .ref o0), (1, .ref o1), (2, .ref o2), (3, .int p3), (4, .int (bi t4)), (5, .int (bi z8)), (6, .int (bi t12))] rfl (subl_c rfl (subl_c rfl (subl_c rfl (subl_c rfl (subl_c rfl (subl_c rfl (subl_c rfl (subl_n)))))))) ?_
        refine s_iload rfl rfl ?_
        refine s_jnP (fun (s53 : Unit) w => (79, [(0, .ref o0), (1, .ref o1), (2, .ref o2), (3, .int p3), (4, .int (bi t4)), (5, .int (bi z8)), (6, .int (bi t12))], [], w)) (fun s53 w15 hT15 => ?_) (fun j14 hj14 => ?_)
        · show sp _ (PP _ _ _ (79, [(0, .ref o0), (1, .ref o1), (2, .ref o2), (3, .int p3), (4, .int (bi t4)), (5, .int (bi z8)), (6, .int (bi t12))], [], w15))
          refine s_aload rfl rfl ?_
          refine s_getI rfl hT15 ho0 ?_
          refine s_const rfl ?_
          refine sp_ite (fun h16 => ?_) (fun h16 => ?_)
          · refine s_ic0 rfl (zc_ge0 h16) ?_
            refine s_iload rfl rfl ?_
            refine s_const rfl ?_
            refine sp_ite (fun h17 => ?_) (fun h17 => ?_)
            · refine s_ic0 rfl (zc_lt0 h17) ?_
              refine s_aload rfl rfl ?_
              refine s_const rfl ?_
              refine s_callZ [.ref o1, .int 4] [] rfl rfl (Nat.le_of_ble_eq_true rfl) (ev_36 (d := d) (by omega) hT15 ho1) (fun r19 w18 hT18 => ?_)
              exact s_retZ (z := r19) rfl rfl hT18 (fun _ _ h => h)
            · refine s_ic1 rfl (zc_lt1 h17) ?_
              refine s_aload rfl rfl ?_
              refine s_dup rfl rfl ?_
              refine s_getI rfl hT15 ho0 ?_
              refine s_const rfl ?_
              refine s_bin rfl rfl ?_
              refine s_putI rfl hT15 ho0 rfl (fun w20 hT20 => ?_)
              refine s_iload rfl rfl ?_
              refine sp_ite (fun h21 => ?_) (fun h21 => ?_)
              · refine s_if0 rfl (zb_eq0 h21) ?_
                refine s_aload rfl rfl ?_
                refine s_callV [.ref o1] [] rfl rfl (Nat.le_of_ble_eq_true rfl) (ev_37 (d := d) (by omega) hT20 ho1) (fun _ w22 hT22 => ?_)
                refine s_aload rfl rfl ?_
                refine s_aload rfl rfl ?_
                refine s_aload rfl rfl ?_
                refine s_iload rfl rfl ?_
                refine s_const rfl ?_
                refine s_bin rfl rfl ?_
                refine s_callZ [.ref o0, .ref o1, .ref o2, .int (p3 + 1)] [] rfl rfl (Nat.le_of_ble_eq_true rfl) (hf160 o0 o1 o2 (p3 + 1) w22 hT22 ho0 ho1 ho2) (fun r25 w24 hT24 => ?_)
                refine sp_ite (fun h26 => ?_) (fun h26 => ?_)
                · refine s_if0 rfl (zb_eq0 h26) ?_
                  refine s_aload rfl rfl ?_
                  refine s_const rfl ?_
                  refine s_callZ [.ref o1, .int 41] [] rfl rfl (Nat.le_of_ble_eq_true rfl) (ev_58 (d := d) (by omega) hT24 ho1) (fun r28 w27 hT27 => ?_)
                  refine sp_ite (fun h29 => ?_) (fun h29 => ?_)
                  · refine s_if0 rfl (zb_eq0 h29) ?_
                    refine s_const rfl ?_
                    refine s_goto rfl ?_
                    exact s_retZ (z := true) rfl rfl hT27 (fun _ _ h => h)
                  · refine s_if1 rfl (zb_eq1 h29) ?_
                    refine s_const rfl ?_
                    exact s_retZ (z := false) rfl rfl hT27 (fun _ _ h => h)
                · refine s_if1 rfl (zb_eq1 h26) ?_
                  refine s_const rfl ?_
                  exact s_retZ (z := false) rfl rfl hT24 (fun _ _ h => h)
              · refine s_if1 rfl (zb_eq1 h21) ?_
                refine s_iload rfl rfl ?_
                refine sp_ite (fun h30 => ?_) (fun h30 => ?_)
                · refine s_if0 rfl (zb_eq0 h30) ?_
                  refine s_aload rfl rfl ?_
                  refine s_aload rfl rfl ?_
                  refine s_aload rfl rfl ?_
                  refine s_callZ [.ref o0, .ref o1, .ref o2] [] rfl rfl (Nat.le_of_ble_eq_true rfl) (ev_164 (d := d) (by omega) hT20 ho0 ho1 ho2) (fun r32 w31 hT31 => ?_)
                  exact s_retZ (z := r32) rfl rfl hT31 (fun _ _ h => h)
                · refine s_if1 rfl (zb_eq1 h30) ?_
                  refine s_iload rfl rfl ?_
                  refine sp_ite (fun h33 => ?_) (fun h33 => ?_)
                  · refine s_if1 rfl (zb_ne1 h33) ?_
                    refine s_aload rfl rfl ?_
                    refine s_callV [.ref o1] [] rfl rfl (Nat.le_of_ble_eq_true rfl) (ev_37 (d := d) (by omega) hT20 ho1) (fun _ w34 hT34 => ?_)
                    refine s_aload rfl rfl ?_
                    refine s_aload rfl rfl ?_
                    refine s_aload rfl rfl ?_
                    refine s_iload rfl rfl ?_
                    refine s_const rfl ?_
                    refine s_bin rfl rfl ?_
                    refine s_callZ [.ref o0, .ref o1, .ref o2, .int (p3 + 1)] [] rfl rfl (Nat.le_of_ble_eq_true rfl) (hf162 o0 o1 o2 (p3 + 1) w34 hT34 ho0 ho1 ho2) (fun r37 w36 hT36 => ?_)
                    refine sp_ite (fun h38 => ?_) (fun h38 => ?_)
                    · refine s_if1 rfl (zb_ne1 h38) ?_
                      refine s_aload rfl rfl ?_
                      refine s_const rfl ?_
                      refine s_const rfl ?_
                      refine s_const rfl ?_
                      refine s_callV [.ref o0, .int 6, .int 0, .int 0] [] rfl rfl (Nat.le_of_ble_eq_true rfl) (ev_165 (d := d) (by omega) hT36 ho0) (fun _ w39 hT39 => ?_)
                      refine s_const rfl ?_
                      exact s_retZ (z := true) rfl rfl hT39 (fun _ _ h => h)
                    · refine s_if0 rfl (zb_ne0 h38) ?_
                      refine s_const rfl ?_
                      exact s_retZ (z := false) rfl rfl hT36 (fun _ _ h => h)
                  · refine s_if0 rfl (zb_ne0 h33) ?_
                    refine s_aload rfl rfl ?_
                    refine s_aload rfl rfl ?_
                    refine s_callZ [.ref o0, .ref o1] [] rfl rfl (Nat.le_of_ble_eq_true rfl) (ev_166 (d := d) (by omega) hT20 ho0 ho1) (fun r42 w41 hT41 => ?_)
                    exact s_retZ (z := r42) rfl rfl hT41 (fun _ _ h => h)
          · refine s_ic1 rfl (zc_ge1 h16) ?_
            refine s_aload rfl rfl ?_
            refine s_const rfl ?_
            refine s_callZ [.ref o1, .int 4] [] rfl rfl (Nat.le_of_ble_eq_true rfl) (ev_36 (d := d) (by omega) hT15 ho1) (fun r44 w43 hT43 => ?_)
            exact s_retZ (z := r44) rfl rfl hT43 (fun _ _ h => h)
        · refine sp_ite (fun h45 => ?_) (fun h45 => ?_)
          · refine s_if1 rfl (zb_ne1 h45) ?_
            exact s_fgt _ (subl_c rfl (subl_c rfl (subl_c rfl (subl_c rfl (subl_c rfl (subl_c rfl (subl_c rfl (subl_n)))))))) (hj14 () w13 hT13)
          · refine s_if0 rfl (zb_ne0 h45) ?_
            refine s_iload rfl rfl ?_
            refine sp_ite (fun h46 => ?_) (fun h46 => ?_)
            · refine s_if1 rfl (zb_ne1 h46) ?_
              exact s_fgt _ (subl_c rfl (subl_c rfl (subl_c rfl (subl_c rfl (subl_c rfl (subl_c rfl (subl_c rfl (subl_n)))))))) (hj14 () w13 hT13)
            · refine s_if0 rfl (zb_ne0 h46) ?_
              refine s_iload rfl rfl ?_
              refine sp_ite (fun h47 => ?_) (fun h47 => ?_)
              · refine s_if1 rfl (zb_ne1 h47) ?_
                exact s_fgt _ (subl_c rfl (subl_c rfl (subl_c rfl (subl_c rfl (subl_c rfl (subl_c rfl (subl_c rfl (subl_n)))))))) (hj14 () w13 hT13)
              · refine s_if0 rfl (zb_ne0 h47) ?_
                refine s_aload rfl rfl ?_
                refine s_callI [.ref o1] [] rfl rfl (Nat.le_of_ble_eq_true rfl) (ev_163 (d := d) (by omega) hT13 ho1) (fun r49 w48 hT48 => ?_)
                refine s_const rfl ?_
                refine sp_ite (fun h50 => ?_) (fun h50 => ?_)
                · refine s_ic0 rfl (zc_ne0 h50) ?_
                  refine s_aload rfl rfl ?_
                  refine s_const rfl ?_
                  refine s_callZ [.ref o1, .int 1] [] rfl rfl (Nat.le_of_ble_eq_true rfl) (ev_36 (d := d) (by omega) hT48 ho1) (fun r52 w51 hT51 => ?_)
                  exact s_retZ (z := r52) rfl rfl hT51 (fun _ _ h => h)
                · refine s_ic1 rfl (zc_ne1 h50) ?_
                  exact s_fgt _ (subl_c rfl (subl_c rfl (subl_c rfl (subl_c rfl (subl_c rfl (subl_c rfl (subl_c rfl (subl_n)))))))) (hj14 () w48 hT48)
      · refine sp_gd (fun h55 => ?_)
        refine sp_gd (fun h56 => ?_)
        refine sp_ite (fun h54 => ?_) (fun h54 => ?_)
        · refine s_acn (x := r10) (y := some 1023) rfl h55 h56 (fun q => absurd h54 q) (fun _ => ?_)
          refine s_const rfl ?_
          refine s_goto rfl ?_
          exact s_fgt _ (subl_c rfl (subl_c rfl (subl_c rfl (subl_c rfl (subl_c rfl (subl_c rfl (subl_n))))))) (hj11 true w9 hT9)
        · refine s_acn (x := r10) (y := some 1023) rfl h55 h56 (fun _ => ?_) (fun q => absurd q h54)
          refine s_const rfl ?_
          exact s_fgt _ (subl_c rfl (subl_c rfl (subl_c rfl (subl_c rfl (subl_c rfl (subl_c rfl (subl_n))))))) (hj11 false w9 hT9)
    · by_cases h59 : r7 = 40
      · refine s_ic0 rfl (zc_ne0 h59) ?_
        refine s_const rfl ?_
        refine s_goto rfl ?_
        refine s_cong ?_ hk58
        (rw [hz8, if_pos h59]; rfl)
      · refine s_ic1 rfl (zc_ne1 h59) ?_
        refine s_const rfl ?_
        refine s_cong ?_ hk58
        (rw [hz8, if_neg h59]; rfl)
  · refine sp_gd (fun h61 => ?_)
    refine sp_gd (fun h62 => ?_)
    refine sp_ite (fun h60 => ?_) (fun h60 => ?_)
    · refine s_acn (x := r2) (y := some 1022) rfl h61 h62 (fun q => absurd h60 q) (fun _ => ?_)
      refine s_const rfl ?_
      refine s_goto rfl ?_
      exact s_fgt _ (subl_c rfl (subl_c rfl (subl_c rfl (subl_c rfl (subl_n))))) (hj3 true w1 hT1)
    · refine s_acn (x := r2) (y := some 1022) rfl h61 h62 (fun _ => ?_) (fun q => absurd q h60)
      refine s_const rfl ?_
      exact s_fgt _ (subl_c rfl (subl_c rfl (subl_c rfl (subl_c rfl (subl_n))))) (hj3 false w1 hT1)
def sr_S : Nat → Nat → Nat → Nat → Nat → Int32 → Wd → Option (Bool × Wd)
  | 0, _ => fun _ _ _ _ _ => none
  | k + 1, 0 => sb_160 (sr_S k 1)
  | k + 1, 1 => sb_161 (sr_S k 2)
  | k + 1, _ => sb_162 (sr_S k 0) (sr_S k 2)
def sr_n (i : Nat) : Nat := match i with
  | 0 => 160
  | 1 => 161
  | _ => 162
theorem er_S : ∀ (k d : Nat), 4 + k ≤ d → ∀ (i : Nat) (o0 : Nat) (o1 : Nat) (o2 : Nat) (p3 : Int32) (w : Wd), TY w → ist o0 6 → ist o1 7 → ist o2 1 → sp (sr_S k i o0 o1 o2 p3 w) (fun r w' => TY w' ∧ Ev d (sr_n i) [.ref o0, .ref o1, .ref o2, .int p3] w (cvZ r) w')
  | 0, d, hd => by intros; exact sp_none
  | k + 1, d, hd => by
    intro i o0 o1 o2 p3 w hT ho0 ho1 ho2
    obtain ⟨d, rfl⟩ : ∃ d', d = d' + 1 := ⟨d - 1, by omega⟩
    match i with
    | 0 => exact eb_160 (by omega) (er_S k d (by omega) 1) hT ho0 ho1 ho2
    | 1 => exact eb_161 (by omega) (er_S k d (by omega) 2) hT ho0 ho1 ho2
    | _ + 2 => exact eb_162 (by omega) (er_S k d (by omega) 0) (er_S k d (by omega) 2) hT ho0 ho1 ho2
def sh_160 (o0 : Nat) (o1 : Nat) (o2 : Nat) (p3 : Int32) (w : Wd) : Option (Bool × Wd) := sr_S 40 0 o0 o1 o2 p3 w
theorem ev_160 {d : Nat} (hd : 44 ≤ d) {o0 : Nat} {o1 : Nat} {o2 : Nat} {p3 : Int32} {w : Wd} (hT : TY w) (ho0 : ist o0 6) (ho1 : ist o1 7) (ho2 : ist o2 1) : sp (sh_160 o0 o1 o2 p3 w) (fun r w' => TY w' ∧ Ev d 160 [.ref o0, .ref o1, .ref o2, .int p3] w (cvZ r) w') := er_S 40 d (by omega) 0 o0 o1 o2 p3 w hT ho0 ho1 ho2
def sh_161 (o0 : Nat) (o1 : Nat) (o2 : Nat) (p3 : Int32) (w : Wd) : Option (Bool × Wd) := sr_S 40 1 o0 o1 o2 p3 w
theorem ev_161 {d : Nat} (hd : 44 ≤ d) {o0 : Nat} {o1 : Nat} {o2 : Nat} {p3 : Int32} {w : Wd} (hT : TY w) (ho0 : ist o0 6) (ho1 : ist o1 7) (ho2 : ist o2 1) : sp (sh_161 o0 o1 o2 p3 w) (fun r w' => TY w' ∧ Ev d 161 [.ref o0, .ref o1, .ref o2, .int p3] w (cvZ r) w') := er_S 40 d (by omega) 1 o0 o1 o2 p3 w hT ho0 ho1 ho2
def sh_162 (o0 : Nat) (o1 : Nat) (o2 : Nat) (p3 : Int32) (w : Wd) : Option (Bool × Wd) := sr_S 40 2 o0 o1 o2 p3 w
theorem ev_162 {d : Nat} (hd : 44 ≤ d) {o0 : Nat} {o1 : Nat} {o2 : Nat} {p3 : Int32} {w : Wd} (hT : TY w) (ho0 : ist o0 6) (ho1 : ist o1 7) (ho2 : ist o2 1) : sp (sh_162 o0 o1 o2 p3 w) (fun r w' => TY w' ∧ Ev d 162 [.ref o0, .ref o1, .ref o2, .int p3] w (cvZ r) w') := er_S 40 d (by omega) 2 o0 o1 o2 p3 w hT ho0 ho1 ho2
/-- RugReader$Sentence.take(LRugReader$Tape;LRugReader$House;)Z -/
def sh_159 (o0 : Nat) (o1 : Nat) (o2 : Nat) (w : Wd) : Option (Bool × Wd) := cl (sh_62 o0 w) (fun _ w1 => cl (sh_18 o1 200 w1) (fun _ w3 => cl (sh_160 o0 o1 o2 0 w3) (fun r6 w5 => if r6 = true then (cl (sh_60 o1 w5) (fun r9 w8 => if r9 = true then (some (true, w8)) else (some (false, w8)))) else (some (false, w5)))))
set_option maxRecDepth 20000 in
set_option maxHeartbeats 4000000 in
theorem ev_159 {d : Nat} (hd : 45 ≤ d) {o0 : Nat} {o1 : Nat} {o2 : Nat} {w : Wd} (hT : TY w) (ho0 : ist o0 6) (ho1 : ist o1 7) (ho2 : ist o2 1) : sp (sh_159 o0 o1 o2 w) (fun r w' => TY w' ∧ Ev d 159 [.ref o0, .ref o1, .ref o2] w (cvZ r) w') := by
  obtain ⟨d, rfl⟩ : ∃ d', d = d' + 1 := ⟨d - 1, by omega⟩
  refine ev_of (M := M159) zin_159 rfl (by decide) rfl (Nat.le_of_ble_eq_true rfl) (Or.inr ⟨o0, _, rfl, ho0⟩) hT ?_
  show sp _ (PP (Ev d) M159 (KR cvZ) (0, [(0, .ref o0), (1, .ref o1), (2, .ref o2)], [], w))
  unfold sh_159
  refine s_aload rfl rfl ?_
  refine s_callV [.ref o0] [] rfl rfl (Nat.le_of_ble_eq_true rfl) (ev_62 (d := d) (by omega) hT ho0) (fun _ w1 hT1 => ?_)
  refine s_aload rfl rfl ?_
  refine s_const rfl ?_
  refine s_callV [.ref o1, .int 200] [] rfl rfl (Nat.le_of_ble_eq_true rfl) (ev_18 (d := d) (by omega) hT1 ho1) (fun _ w3 hT3 => ?_)
  refine s_aload rfl rfl ?_
  refine s_aload rfl rfl ?_
  refine s_aload rfl rfl ?_
  refine s_const rfl ?_
  refine s_callZ [.ref o0, .ref o1, .ref o2, .int 0] [] rfl rfl (Nat.le_of_ble_eq_true rfl) (ev_160 (d := d) (by omega) hT3 ho0 ho1 ho2) (fun r6 w5 hT5 => ?_)
  refine sp_ite (fun h7 => ?_) (fun h7 => ?_)
  · refine s_if0 rfl (zb_eq0 h7) ?_
    refine s_aload rfl rfl ?_
    refine s_callZ [.ref o1] [] rfl rfl (Nat.le_of_ble_eq_true rfl) (ev_60 (d := d) (by omega) hT5 ho1) (fun r9 w8 hT8 => ?_)
    refine sp_ite (fun h10 => ?_) (fun h10 => ?_)
    · refine s_if0 rfl (zb_eq0 h10) ?_
      refine s_const rfl ?_
      refine s_goto rfl ?_
      exact s_retZ (z := true) rfl rfl hT8 (fun _ _ h => h)
    · refine s_if1 rfl (zb_eq1 h10) ?_
      refine s_const rfl ?_
      exact s_retZ (z := false) rfl rfl hT8 (fun _ _ h => h)
  · refine s_if1 rfl (zb_eq1 h7) ?_
    refine s_const rfl ?_
    exact s_retZ (z := false) rfl rfl hT5 (fun _ _ h => h)
/-- RugReader.sentence()I -/
def sh_158 (o0 : Nat) (w : Wd) : Option (Int32 × Wd) := der (wR w o0 5) (fun a1 => der (wR w o0 2) (fun a2 => cl (sh_159 a1 (o0 + 1) a2 w) (fun r4 w3 => stI w3 (o0 + 1) 1 0 (fun w5 => if r4 = true then (der (wR w5 o0 4) (fun a7 => der (wR w5 o0 5) (fun a8 => stR w5 o0 4 (some a8) (fun w9 => stR w9 o0 5 (some a7) (fun w10 => der (wR w10 o0 4) (fun a11 => some (wI w10 a11 0, w10))))))) else (some ((-1) - (wI w5 (o0 + 1) 3), w5))))))
set_option maxRecDepth 20000 in
set_option maxHeartbeats 4000000 in
theorem ev_158 {d : Nat} (hd : 46 ≤ d) {o0 : Nat} {w : Wd} (hT : TY w) (ho0 : ist o0 9) : sp (sh_158 o0 w) (fun r w' => TY w' ∧ Ev d 158 [.ref o0] w (cvI r) w') := by
  obtain ⟨d, rfl⟩ : ∃ d', d = d' + 1 := ⟨d - 1, by omega⟩
  refine ev_of (M := M158) zin_158 rfl (by decide) rfl (Nat.le_of_ble_eq_true rfl) (Or.inr ⟨o0, _, rfl, ho0⟩) hT ?_
  show sp _ (PP (Ev d) M158 (KR cvI) (0, [(0, .ref o0)], [], w))
  unfold sh_158
  refine s_aload rfl rfl ?_
  refine s_getD rfl hT ho0 (by decide) rfl (fun a1 ha1 => ?_)
  refine s_aload rfl rfl ?_
  refine s_getF rfl hT ho0 rfl ?_
  refine s_aload rfl rfl ?_
  refine s_getD rfl hT ho0 (by decide) rfl (fun a2 ha2 => ?_)
  refine s_callZ [.ref a1, .ref (o0 + 1), .ref a2] [] rfl rfl (Nat.le_of_ble_eq_true rfl) (ev_159 (d := d) (by omega) hT ha1 (of_9_0 ho0) ha2) (fun r4 w3 hT3 => ?_)
  refine s_istoreF [(0, .ref o0), (1, .int (bi r4))] rfl (subl_c rfl (subl_c rfl (subl_n))) ?_
  refine s_aload rfl rfl ?_
  refine s_getF rfl hT3 ho0 rfl ?_
  refine s_const rfl ?_
  refine s_putI rfl hT3 (of_9_0 ho0) rfl (fun w5 hT5 => ?_)
  refine s_iload rfl rfl ?_
  refine sp_ite (fun h6 => ?_) (fun h6 => ?_)
  · refine s_if1 rfl (zb_ne1 h6) ?_
    refine s_aload rfl rfl ?_
    refine s_getD rfl hT5 ho0 (by decide) rfl (fun a7 ha7 => ?_)
    refine s_astoreF [(0, .ref o0), (2, .ref a7)] rfl (subl_c rfl (subl_c rfl (subl_n))) ?_
    refine s_aload rfl rfl ?_
    refine s_aload rfl rfl ?_
    refine s_getD rfl hT5 ho0 (by decide) rfl (fun a8 ha8 => ?_)
    refine s_putR rfl hT5 ho0 rfl (by decide) rfl ha8 (fun w9 hT9 => ?_)
    refine s_aload rfl rfl ?_
    refine s_aload rfl rfl ?_
    refine s_putR rfl hT9 ho0 rfl (by decide) rfl ha7 (fun w10 hT10 => ?_)
    refine s_aload rfl rfl ?_
    refine s_getD rfl hT10 ho0 (by decide) rfl (fun a11 ha11 => ?_)
    refine s_getI rfl hT10 ha11 ?_
    exact s_retI rfl rfl hT10 (fun _ _ h => h)
  · refine s_if0 rfl (zb_ne0 h6) ?_
    refine s_const rfl ?_
    refine s_aload rfl rfl ?_
    refine s_getF rfl hT5 ho0 rfl ?_
    refine s_getI rfl hT5 (of_9_0 ho0) ?_
    refine s_bin rfl rfl ?_
    exact s_retI rfl rfl hT5 (fun _ _ h => h)
/-- RugReader$Rug.printsByOn(II)I -/
def sh_171 (o0 : Nat) (p1 : Int32) (p2 : Int32) (w : Wd) : Option (Int32 × Wd) := cl (sh_75 p1 w) (fun r2 w1 => if r2 = true then (cl (sh_77 p2 w1) (fun r5 w4 => if r5 = true then (itM (fun (s16 : Int32 × Int32) (w10 : Wd) => match s16 with | (v3_7, v4_8) => if v4_8 < 9 then (cl (sh_78 v4_8 p2 p1 w10) (fun r13 w12 => gd (ib r13 7776) (lt (v3_7 + (wI w12 (o0 + 1) (ix r13)) : Int32) (fun v3_14 => lt (v4_8 + 1 : Int32) (fun v4_15 => some (.inl (v3_14, v4_15), w12)))))) else (some (.inr (v3_7), w10))) FU (0, 0) w4) else (some (0, w4)))) else (some (0, w1)))
set_option maxRecDepth 20000 in
set_option maxHeartbeats 4000000 in
theorem ev_171 {d : Nat} (hd : 2 ≤ d) {o0 : Nat} {p1 : Int32} {p2 : Int32} {w : Wd} (hT : TY w) (ho0 : ist o0 5) : sp (sh_171 o0 p1 p2 w) (fun r w' => TY w' ∧ Ev d 171 [.ref o0, .int p1, .int p2] w (cvI r) w') := by
  obtain ⟨d, rfl⟩ : ∃ d', d = d' + 1 := ⟨d - 1, by omega⟩
  refine ev_of (M := M171) zin_171 rfl (by decide) rfl (Nat.le_of_ble_eq_true rfl) (Or.inr ⟨o0, _, rfl, ho0⟩) hT ?_
  show sp _ (PP (Ev d) M171 (KR cvI) (0, [(0, .ref o0), (1, .int p1), (2, .int p2)], [], w))
  unfold sh_171
  refine s_iload rfl rfl ?_
  refine s_callZ [.int p1] [] rfl rfl (Nat.le_of_ble_eq_true rfl) (ev_75 (d := d) (by omega) hT ) (fun r2 w1 hT1 => ?_)
  refine sp_ite (fun h3 => ?_) (fun h3 => ?_)
  · refine s_if0 rfl (zb_eq0 h3) ?_
    refine s_iload rfl rfl ?_
    refine s_callZ [.int p2] [] rfl rfl (Nat.le_of_ble_eq_true rfl) (ev_77 (d := d) (by omega) hT1 ) (fun r5 w4 hT4 => ?_)
    refine sp_ite (fun h6 => ?_) (fun h6 => ?_)
    · refine s_if1 rfl (zb_ne1 h6) ?_
      refine s_const rfl ?_
      refine s_istoreF [(0, .ref o0), (1, .int p1), (2, .int p2), (3, .int 0)] rfl (subl_c rfl (subl_c rfl (subl_c rfl (subl_c rfl (subl_n))))) ?_
      refine s_const rfl ?_
      refine s_istoreF [(0, .ref o0), (1, .int p1), (2, .int p2), (3, .int 0), (4, .int 0)] rfl (subl_c rfl (subl_c rfl (subl_c rfl (subl_c rfl (subl_c rfl (subl_n)))))) ?_
      let lvL9 : Int32 × Int32 → List (Nat × Value) := fun s16 => [(0, .ref o0), (1, .int p1), (2, .int p2), (3, .int (s16.1)), (4, .int (s16.2))]
      refine s_loop lvL9 (subl_c rfl (subl_c rfl (subl_c rfl (subl_c rfl (subl_c rfl (subl_n)))))) hT4 (fun s16 w10 hT10 => ?_)
      obtain ⟨v3_7, v4_8⟩ := s16
      show sp _ (PP _ _ _ (21, [(0, .ref o0), (1, .int p1), (2, .int p2), (3, .int v3_7), (4, .int v4_8)], [], w10))
      refine s_iload rfl rfl ?_
      refine s_const rfl ?_
      refine sp_ite (fun h11 => ?_) (fun h11 => ?_)
      · refine s_ic0 rfl (zc_ge0 h11) ?_
        refine s_iload rfl rfl ?_
        refine s_aload rfl rfl ?_
        refine s_getF rfl hT10 ho0 rfl ?_
        refine s_iload rfl rfl ?_
        refine s_iload rfl rfl ?_
        refine s_iload rfl rfl ?_
        refine s_callI [.int v4_8, .int p2, .int p1] [.ref (o0 + 1), .int v3_7] rfl rfl (Nat.le_of_ble_eq_true rfl) (ev_78 (d := d) (by omega) hT10 ) (fun r13 w12 hT12 => ?_)
        refine s_iald rfl hT12 (of_5_1 ho0) ?_
        refine s_bin rfl rfl ?_
        refine s_nmI (fun v3_14 => ?_)
        refine s_istoreF [(0, .ref o0), (1, .int p1), (2, .int p2), (3, .int v3_14), (4, .int v4_8)] rfl (subl_c rfl (subl_c rfl (subl_c rfl (subl_c rfl (subl_c rfl (subl_n)))))) ?_
        refine s_iincF (fun v4_15 => [(0, .ref o0), (1, .int p1), (2, .int p2), (3, .int v3_14), (4, .int v4_15)]) rfl rfl (fun _ => subl_c rfl (subl_c rfl (subl_c rfl (subl_c rfl (subl_c rfl (subl_n)))))) (fun v4_15 => ?_)
        refine s_goto rfl ?_
        exact s_back (lvL := lvL9) (s' := (v3_14, v4_15)) (subl_c rfl (subl_c rfl (subl_c rfl (subl_c rfl (subl_c rfl (subl_n)))))) hT12 (fun _ _ h => h)
      · refine s_ic1 rfl (zc_ge1 h11) ?_
        refine s_iload rfl rfl ?_
        exact s_retI rfl rfl hT10 (fun _ _ h => h)
    · refine s_if0 rfl (zb_ne0 h6) ?_
      refine s_const rfl ?_
      exact s_retI rfl rfl hT4 (fun _ _ h => h)
  · refine s_if1 rfl (zb_eq1 h3) ?_
    refine s_const rfl ?_
    exact s_retI rfl rfl hT1 (fun _ _ h => h)
/-- RugReader$Rug.trodAlong(LRugReader$House;II)Z -/
def sh_170 (o0 : Nat) (o1 : Nat) (p2 : Int32) (p3 : Int32) (w : Wd) : Option (Bool × Wd) := cl (sh_66 o1 p3 w) (fun r2 w1 => itM (fun (v5_3 : Int32) (w5 : Wd) => if v5_3 < r2 then (cl (sh_65 o1 p3 v5_3 w5) (fun r8 w7 => cl (sh_171 o0 p2 r8 w7) (fun r10 w9 => if 0 < r10 then (some (.inr (true), w9)) else (lt (v5_3 + 1 : Int32) (fun v5_12 => some (.inl v5_12, w9)))))) else (some (.inr (false), w5))) FU 0 w1)
set_option maxRecDepth 20000 in
set_option maxHeartbeats 4000000 in
theorem ev_170 {d : Nat} (hd : 4 ≤ d) {o0 : Nat} {o1 : Nat} {p2 : Int32} {p3 : Int32} {w : Wd} (hT : TY w) (ho0 : ist o0 5) (ho1 : ist o1 1) : sp (sh_170 o0 o1 p2 p3 w) (fun r w' => TY w' ∧ Ev d 170 [.ref o0, .ref o1, .int p2, .int p3] w (cvZ r) w') := by
  obtain ⟨d, rfl⟩ : ∃ d', d = d' + 1 := ⟨d - 1, by omega⟩
  refine ev_of (M := M170) zin_170 rfl (by decide) rfl (Nat.le_of_ble_eq_true rfl) (Or.inr ⟨o0, _, rfl, ho0⟩) hT ?_
  show sp _ (PP (Ev d) M170 (KR cvZ) (0, [(0, .ref o0), (1, .ref o1), (2, .int p2), (3, .int p3)], [], w))
  unfold sh_170
  refine s_aload rfl rfl ?_
  refine s_iload rfl rfl ?_
  refine s_callI [.ref o1, .int p3] [] rfl rfl (Nat.le_of_ble_eq_true rfl) (ev_66 (d := d) (by omega) hT ho1) (fun r2 w1 hT1 => ?_)
  refine s_istoreF [(0, .ref o0), (1, .ref o1), (2, .int p2), (3, .int p3), (4, .int r2)] rfl (subl_c rfl (subl_c rfl (subl_c rfl (subl_c rfl (subl_c rfl (subl_n)))))) ?_
  refine s_const rfl ?_
  refine s_istoreF [(0, .ref o0), (1, .ref o1), (2, .int p2), (3, .int p3), (4, .int r2), (5, .int 0)] rfl (subl_c rfl (subl_c rfl (subl_c rfl (subl_c rfl (subl_c rfl (subl_c rfl (subl_n))))))) ?_
  let lvL4 : Int32 → List (Nat × Value) := fun s13 => [(0, .ref o0), (1, .ref o1), (2, .int p2), (3, .int p3), (4, .int r2), (5, .int s13)]
  refine s_loop lvL4 (subl_c rfl (subl_c rfl (subl_c rfl (subl_c rfl (subl_c rfl (subl_c rfl (subl_n))))))) hT1 (fun v5_3 w5 hT5 => ?_)
  show sp _ (PP _ _ _ (10, [(0, .ref o0), (1, .ref o1), (2, .int p2), (3, .int p3), (4, .int r2), (5, .int v5_3)], [], w5))
  refine s_iload rfl rfl ?_
  refine s_iload rfl rfl ?_
  refine sp_ite (fun h6 => ?_) (fun h6 => ?_)
  · refine s_ic0 rfl (zc_ge0 h6) ?_
    refine s_aload rfl rfl ?_
    refine s_iload rfl rfl ?_
    refine s_aload rfl rfl ?_
    refine s_iload rfl rfl ?_
    refine s_iload rfl rfl ?_
    refine s_callI [.ref o1, .int p3, .int v5_3] [.int p2, .ref o0] rfl rfl (Nat.le_of_ble_eq_true rfl) (ev_65 (d := d) (by omega) hT5 ho1) (fun r8 w7 hT7 => ?_)
    refine s_callI [.ref o0, .int p2, .int r8] [] rfl rfl (Nat.le_of_ble_eq_true rfl) (ev_171 (d := d) (by omega) hT7 ho0) (fun r10 w9 hT9 => ?_)
    refine sp_ite (fun h11 => ?_) (fun h11 => ?_)
    · refine s_if0 rfl (zc_le0 h11) ?_
      refine s_const rfl ?_
      exact s_retZ (z := true) rfl rfl hT9 (fun _ _ h => h)
    · refine s_if1 rfl (zc_le1 h11) ?_
      refine s_iincF (fun v5_12 => [(0, .ref o0), (1, .ref o1), (2, .int p2), (3, .int p3), (4, .int r2), (5, .int v5_12)]) rfl rfl (fun _ => subl_c rfl (subl_c rfl (subl_c rfl (subl_c rfl (subl_c rfl (subl_c rfl (subl_n))))))) (fun v5_12 => ?_)
      refine s_goto rfl ?_
      exact s_back (lvL := lvL4) (s' := v5_12) (subl_c rfl (subl_c rfl (subl_c rfl (subl_c rfl (subl_c rfl (subl_c rfl (subl_n))))))) hT9 (fun _ _ h => h)
  · refine s_ic1 rfl (zc_ge1 h6) ?_
    refine s_const rfl ?_
    exact s_retZ (z := false) rfl rfl hT5 (fun _ _ h => h)
/-- RugReader$Rug.printsBy(I)I -/
def sh_173 (o0 : Nat) (p1 : Int32) (w : Wd) : Option (Int32 × Wd) := itM (fun (s10 : Int32 × Int32) (w4 : Wd) => match s10 with | (v2_1, v3_2) => if v3_2 < 144 then (cl (sh_171 o0 p1 v3_2 w4) (fun r7 w6 => lt (v2_1 + r7 : Int32) (fun v2_8 => lt (v3_2 + 1 : Int32) (fun v3_9 => some (.inl (v2_8, v3_9), w6))))) else (some (.inr (v2_1), w4))) FU (0, 0) w
set_option maxRecDepth 20000 in
set_option maxHeartbeats 4000000 in
theorem ev_173 {d : Nat} (hd : 3 ≤ d) {o0 : Nat} {p1 : Int32} {w : Wd} (hT : TY w) (ho0 : ist o0 5) : sp (sh_173 o0 p1 w) (fun r w' => TY w' ∧ Ev d 173 [.ref o0, .int p1] w (cvI r) w') := by
  obtain ⟨d, rfl⟩ : ∃ d', d = d' + 1 := ⟨d - 1, by omega⟩
  refine ev_of (M := M173) zin_173 rfl (by decide) rfl (Nat.le_of_ble_eq_true rfl) (Or.inr ⟨o0, _, rfl, ho0⟩) hT ?_
  show sp _ (PP (Ev d) M173 (KR cvI) (0, [(0, .ref o0), (1, .int p1)], [], w))
  unfold sh_173
  refine s_const rfl ?_
  refine s_istoreF [(0, .ref o0), (1, .int p1), (2, .int 0)] rfl (subl_c rfl (subl_c rfl (subl_c rfl (subl_n)))) ?_
  refine s_const rfl ?_
  refine s_istoreF [(0, .ref o0), (1, .int p1), (2, .int 0), (3, .int 0)] rfl (subl_c rfl (subl_c rfl (subl_c rfl (subl_c rfl (subl_n))))) ?_
  let lvL3 : Int32 × Int32 → List (Nat × Value) := fun s10 => [(0, .ref o0), (1, .int p1), (2, .int (s10.1)), (3, .int (s10.2))]
  refine s_loop lvL3 (subl_c rfl (subl_c rfl (subl_c rfl (subl_c rfl (subl_n))))) hT (fun s10 w4 hT4 => ?_)
  obtain ⟨v2_1, v3_2⟩ := s10
  show sp _ (PP _ _ _ (4, [(0, .ref o0), (1, .int p1), (2, .int v2_1), (3, .int v3_2)], [], w4))
  refine s_iload rfl rfl ?_
  refine s_const rfl ?_
  refine sp_ite (fun h5 => ?_) (fun h5 => ?_)
  · refine s_ic0 rfl (zc_ge0 h5) ?_
    refine s_iload rfl rfl ?_
    refine s_aload rfl rfl ?_
    refine s_iload rfl rfl ?_
    refine s_iload rfl rfl ?_
    refine s_callI [.ref o0, .int p1, .int v3_2] [.int v2_1] rfl rfl (Nat.le_of_ble_eq_true rfl) (ev_171 (d := d) (by omega) hT4 ho0) (fun r7 w6 hT6 => ?_)
    refine s_bin rfl rfl ?_
    refine s_nmI (fun v2_8 => ?_)
    refine s_istoreF [(0, .ref o0), (1, .int p1), (2, .int v2_8), (3, .int v3_2)] rfl (subl_c rfl (subl_c rfl (subl_c rfl (subl_c rfl (subl_n))))) ?_
    refine s_iincF (fun v3_9 => [(0, .ref o0), (1, .int p1), (2, .int v2_8), (3, .int v3_9)]) rfl rfl (fun _ => subl_c rfl (subl_c rfl (subl_c rfl (subl_c rfl (subl_n))))) (fun v3_9 => ?_)
    refine s_goto rfl ?_
    exact s_back (lvL := lvL3) (s' := (v2_8, v3_9)) (subl_c rfl (subl_c rfl (subl_c rfl (subl_c rfl (subl_n))))) hT6 (fun _ _ h => h)
  · refine s_ic1 rfl (zc_ge1 h5) ?_
    refine s_iload rfl rfl ?_
    exact s_retI rfl rfl hT4 (fun _ _ h => h)
/-- RugReader$Rug.tuftsTrodBy(I)I -/
def sh_174 (o0 : Nat) (p1 : Int32) (w : Wd) : Option (Int32 × Wd) := itM (fun (s12 : Int32 × Int32) (w4 : Wd) => match s12 with | (v2_1, v3_2) => if v3_2 < 144 then (cl (sh_171 o0 p1 v3_2 w4) (fun r7 w6 => if 0 < r7 then (lt (v2_1 + 1 : Int32) (fun v2_9 => lt (v3_2 + 1 : Int32) (fun v3_10 => some (.inl (v2_9, v3_10), w6)))) else (lt (v3_2 + 1 : Int32) (fun v3_11 => some (.inl (v2_1, v3_11), w6))))) else (some (.inr (v2_1), w4))) FU (0, 0) w
set_option maxRecDepth 20000 in
set_option maxHeartbeats 4000000 in
theorem ev_174 {d : Nat} (hd : 3 ≤ d) {o0 : Nat} {p1 : Int32} {w : Wd} (hT : TY w) (ho0 : ist o0 5) : sp (sh_174 o0 p1 w) (fun r w' => TY w' ∧ Ev d 174 [.ref o0, .int p1] w (cvI r) w') := by
  obtain ⟨d, rfl⟩ : ∃ d', d = d' + 1 := ⟨d - 1, by omega⟩
  refine ev_of (M := M174) zin_174 rfl (by decide) rfl (Nat.le_of_ble_eq_true rfl) (Or.inr ⟨o0, _, rfl, ho0⟩) hT ?_
  show sp _ (PP (Ev d) M174 (KR cvI) (0, [(0, .ref o0), (1, .int p1)], [], w))
  unfold sh_174
  refine s_const rfl ?_
  refine s_istoreF [(0, .ref o0), (1, .int p1), (2, .int 0)] rfl (subl_c rfl (subl_c rfl (subl_c rfl (subl_n)))) ?_
  refine s_const rfl ?_
  refine s_istoreF [(0, .ref o0), (1, .int p1), (2, .int 0), (3, .int 0)] rfl (subl_c rfl (subl_c rfl (subl_c rfl (subl_c rfl (subl_n))))) ?_
  let lvL3 : Int32 × Int32 → List (Nat × Value) := fun s12 => [(0, .ref o0), (1, .int p1), (2, .int (s12.1)), (3, .int (s12.2))]
  refine s_loop lvL3 (subl_c rfl (subl_c rfl (subl_c rfl (subl_c rfl (subl_n))))) hT (fun s12 w4 hT4 => ?_)
  obtain ⟨v2_1, v3_2⟩ := s12
  show sp _ (PP _ _ _ (4, [(0, .ref o0), (1, .int p1), (2, .int v2_1), (3, .int v3_2)], [], w4))
  refine s_iload rfl rfl ?_
  refine s_const rfl ?_
  refine sp_ite (fun h5 => ?_) (fun h5 => ?_)
  · refine s_ic0 rfl (zc_ge0 h5) ?_
    refine s_aload rfl rfl ?_
    refine s_iload rfl rfl ?_
    refine s_iload rfl rfl ?_
    refine s_callI [.ref o0, .int p1, .int v3_2] [] rfl rfl (Nat.le_of_ble_eq_true rfl) (ev_171 (d := d) (by omega) hT4 ho0) (fun r7 w6 hT6 => ?_)
    refine sp_ite (fun h8 => ?_) (fun h8 => ?_)
    · refine s_if0 rfl (zc_le0 h8) ?_
      refine s_iincF (fun v2_9 => [(0, .ref o0), (1, .int p1), (2, .int v2_9), (3, .int v3_2)]) rfl rfl (fun _ => subl_c rfl (subl_c rfl (subl_c rfl (subl_c rfl (subl_n))))) (fun v2_9 => ?_)
      refine s_iincF (fun v3_10 => [(0, .ref o0), (1, .int p1), (2, .int v2_9), (3, .int v3_10)]) rfl rfl (fun _ => subl_c rfl (subl_c rfl (subl_c rfl (subl_c rfl (subl_n))))) (fun v3_10 => ?_)
      refine s_goto rfl ?_
      exact s_back (lvL := lvL3) (s' := (v2_9, v3_10)) (subl_c rfl (subl_c rfl (subl_c rfl (subl_c rfl (subl_n))))) hT6 (fun _ _ h => h)
    · refine s_if1 rfl (zc_le1 h8) ?_
      refine s_iincF (fun v3_11 => [(0, .ref o0), (1, .int p1), (2, .int v2_1), (3, .int v3_11)]) rfl rfl (fun _ => subl_c rfl (subl_c rfl (subl_c rfl (subl_c rfl (subl_n))))) (fun v3_11 => ?_)
      refine s_goto rfl ?_
      exact s_back (lvL := lvL3) (s' := (v2_1, v3_11)) (subl_c rfl (subl_c rfl (subl_c rfl (subl_c rfl (subl_n))))) hT6 (fun _ _ h => h)
  · refine s_ic1 rfl (zc_ge1 h5) ?_
    refine s_iload rfl rfl ?_
    exact s_retI rfl rfl hT4 (fun _ _ h => h)
/-- RugReader.measure(LRugReader$House;LRugReader$Rug;II)I -/
def sh_172 (o0 : Nat) (o1 : Nat) (p2 : Int32) (p3 : Int32) (w : Wd) : Option (Int32 × Wd) := if p3 = 0 then (cl (sh_89 o0 p2 w) (fun r3 w2 => some (r3, w2))) else (if p3 = 1 then (cl (sh_73 o0 p2 w) (fun r6 w5 => some (r6, w5))) else (if p3 = 2 then (cl (sh_134 o0 p2 w) (fun r9 w8 => some (r9, w8))) else (if p3 = 3 then (cl (sh_173 o1 p2 w) (fun r12 w11 => some (r12, w11))) else (if p3 = 4 then (cl (sh_174 o1 p2 w) (fun r15 w14 => some (r15, w14))) else (some (p2, w))))))
set_option maxRecDepth 20000 in
set_option maxHeartbeats 4000000 in
theorem ev_172 {d : Nat} (hd : 4 ≤ d) {o0 : Nat} {o1 : Nat} {p2 : Int32} {p3 : Int32} {w : Wd} (hT : TY w) (ho0 : ist o0 1) (ho1 : ist o1 5) : sp (sh_172 o0 o1 p2 p3 w) (fun r w' => TY w' ∧ Ev d 172 [.ref o0, .ref o1, .int p2, .int p3] w (cvI r) w') := by
  obtain ⟨d, rfl⟩ : ∃ d', d = d' + 1 := ⟨d - 1, by omega⟩
  refine ev_of (M := M172) zin_172 rfl (by decide) rfl (Nat.le_of_ble_eq_true rfl) (Or.inl rfl) hT ?_
  show sp _ (PP (Ev d) M172 (KR cvI) (0, [(0, .ref o0), (1, .ref o1), (2, .int p2), (3, .int p3)], [], w))
  unfold sh_172
  refine s_iload rfl rfl ?_
  refine sp_ite (fun h1 => ?_) (fun h1 => ?_)
  · refine s_if0 rfl (zc_ne0 h1) ?_
    refine s_aload rfl rfl ?_
    refine s_iload rfl rfl ?_
    refine s_callI [.ref o0, .int p2] [] rfl rfl (Nat.le_of_ble_eq_true rfl) (ev_89 (d := d) (by omega) hT ho0) (fun r3 w2 hT2 => ?_)
    exact s_retI rfl rfl hT2 (fun _ _ h => h)
  · refine s_if1 rfl (zc_ne1 h1) ?_
    refine s_iload rfl rfl ?_
    refine s_const rfl ?_
    refine sp_ite (fun h4 => ?_) (fun h4 => ?_)
    · refine s_ic0 rfl (zc_ne0 h4) ?_
      refine s_aload rfl rfl ?_
      refine s_iload rfl rfl ?_
      refine s_callI [.ref o0, .int p2] [] rfl rfl (Nat.le_of_ble_eq_true rfl) (ev_73 (d := d) (by omega) hT ho0) (fun r6 w5 hT5 => ?_)
      exact s_retI rfl rfl hT5 (fun _ _ h => h)
    · refine s_ic1 rfl (zc_ne1 h4) ?_
      refine s_iload rfl rfl ?_
      refine s_const rfl ?_
      refine sp_ite (fun h7 => ?_) (fun h7 => ?_)
      · refine s_ic0 rfl (zc_ne0 h7) ?_
        refine s_aload rfl rfl ?_
        refine s_iload rfl rfl ?_
        refine s_callI [.ref o0, .int p2] [] rfl rfl (Nat.le_of_ble_eq_true rfl) (ev_134 (d := d) (by omega) hT ho0) (fun r9 w8 hT8 => ?_)
        exact s_retI rfl rfl hT8 (fun _ _ h => h)
      · refine s_ic1 rfl (zc_ne1 h7) ?_
        refine s_iload rfl rfl ?_
        refine s_const rfl ?_
        refine sp_ite (fun h10 => ?_) (fun h10 => ?_)
        · refine s_ic0 rfl (zc_ne0 h10) ?_
          refine s_aload rfl rfl ?_
          refine s_iload rfl rfl ?_
          refine s_callI [.ref o1, .int p2] [] rfl rfl (Nat.le_of_ble_eq_true rfl) (ev_173 (d := d) (by omega) hT ho1) (fun r12 w11 hT11 => ?_)
          exact s_retI rfl rfl hT11 (fun _ _ h => h)
        · refine s_ic1 rfl (zc_ne1 h10) ?_
          refine s_iload rfl rfl ?_
          refine s_const rfl ?_
          refine sp_ite (fun h13 => ?_) (fun h13 => ?_)
          · refine s_ic0 rfl (zc_ne0 h13) ?_
            refine s_aload rfl rfl ?_
            refine s_iload rfl rfl ?_
            refine s_callI [.ref o1, .int p2] [] rfl rfl (Nat.le_of_ble_eq_true rfl) (ev_174 (d := d) (by omega) hT ho1) (fun r15 w14 hT14 => ?_)
            refine s_goto rfl ?_
            exact s_retI rfl rfl hT14 (fun _ _ h => h)
          · refine s_ic1 rfl (zc_ne1 h13) ?_
            refine s_iload rfl rfl ?_
            exact s_retI rfl rfl hT (fun _ _ h => h)
/-- RugReader$Sentence.leafHolds(LRugReader$House;LRugReader$Rug;II)Z -/
def sh_169 (o0 : Nat) (o1 : Nat) (o2 : Nat) (p3 : Int32) (p4 : Int32) (w : Wd) : Option (Bool × Wd) := if 0 ≤ p4 then (if 64 ≤ p4 then (some (false, w)) else (gd (ib p4 64) (if wI w (o0 + 1) (ix p4) = 9 then (gd (ib p4 64) (cl (sh_170 o2 o1 p3 (wI w (o0 + 3) (ix p4)) w) (fun r5 w4 => some (r5, w4)))) else (gd (ib p4 64) (cl (sh_172 o1 o2 p3 (wI w (o0 + 1) (ix p4)) w) (fun r7 w6 => gd (ib p4 64) (if wI w6 (o0 + 2) (ix p4) = 60 then (gd (ib p4 64) (lt (if r7 < wI w6 (o0 + 3) (ix p4) then true else false : Bool) (fun z9 => some (z9, w6)))) else (gd (ib p4 64) (if wI w6 (o0 + 2) (ix p4) = 61 then (gd (ib p4 64) (if r7 = wI w6 (o0 + 3) (ix p4) then (some (true, w6)) else (some (false, w6)))) else (gd (ib p4 64) (if wI w6 (o0 + 3) (ix p4) < r7 then (some (true, w6)) else (some (false, w6))))))))))))) else (some (false, w))
set_option maxRecDepth 20000 in
set_option maxHeartbeats 4000000 in
theorem ev_169 {d : Nat} (hd : 5 ≤ d) {o0 : Nat} {o1 : Nat} {o2 : Nat} {p3 : Int32} {p4 : Int32} {w : Wd} (hT : TY w) (ho0 : ist o0 6) (ho1 : ist o1 1) (ho2 : ist o2 5) : sp (sh_169 o0 o1 o2 p3 p4 w) (fun r w' => TY w' ∧ Ev d 169 [.ref o0, .ref o1, .ref o2, .int p3, .int p4] w (cvZ r) w') := by
  obtain ⟨d, rfl⟩ : ∃ d', d = d' + 1 := ⟨d - 1, by omega⟩
  refine ev_of (M := M169) zin_169 rfl (by decide) rfl (Nat.le_of_ble_eq_true rfl) (Or.inr ⟨o0, _, rfl, ho0⟩) hT ?_
  show sp _ (PP (Ev d) M169 (KR cvZ) (0, [(0, .ref o0), (1, .ref o1), (2, .ref o2), (3, .int p3), (4, .int p4)], [], w))
  unfold sh_169
  refine s_iload rfl rfl ?_
  refine sp_ite (fun h1 => ?_) (fun h1 => ?_)
  · refine s_if0 rfl (zc_lt0 h1) ?_
    refine s_iload rfl rfl ?_
    refine s_const rfl ?_
    refine sp_ite (fun h2 => ?_) (fun h2 => ?_)
    · refine s_ic0 rfl (zc_lt0 h2) ?_
      refine s_const rfl ?_
      exact s_retZ (z := false) rfl rfl hT (fun _ _ h => h)
    · refine s_ic1 rfl (zc_lt1 h2) ?_
      refine s_aload rfl rfl ?_
      refine s_getF rfl hT ho0 rfl ?_
      refine s_iload rfl rfl ?_
      refine s_iald rfl hT (of_6_2 ho0) ?_
      refine s_const rfl ?_
      refine sp_ite (fun h3 => ?_) (fun h3 => ?_)
      · refine s_ic0 rfl (zc_ne0 h3) ?_
        refine s_aload rfl rfl ?_
        refine s_aload rfl rfl ?_
        refine s_iload rfl rfl ?_
        refine s_aload rfl rfl ?_
        refine s_getF rfl hT ho0 rfl ?_
        refine s_iload rfl rfl ?_
        refine s_iald rfl hT (of_6_4 ho0) ?_
        refine s_callZ [.ref o2, .ref o1, .int p3, .int (wI w (o0 + 3) (ix p4))] [] rfl rfl (Nat.le_of_ble_eq_true rfl) (ev_170 (d := d) (by omega) hT ho2 ho1) (fun r5 w4 hT4 => ?_)
        exact s_retZ (z := r5) rfl rfl hT4 (fun _ _ h => h)
      · refine s_ic1 rfl (zc_ne1 h3) ?_
        refine s_aload rfl rfl ?_
        refine s_aload rfl rfl ?_
        refine s_iload rfl rfl ?_
        refine s_aload rfl rfl ?_
        refine s_getF rfl hT ho0 rfl ?_
        refine s_iload rfl rfl ?_
        refine s_iald rfl hT (of_6_2 ho0) ?_
        refine s_callI [.ref o1, .ref o2, .int p3, .int (wI w (o0 + 1) (ix p4))] [] rfl rfl (Nat.le_of_ble_eq_true rfl) (ev_172 (d := d) (by omega) hT ho1 ho2) (fun r7 w6 hT6 => ?_)
        refine s_istoreF [(0, .ref o0), (4, .int p4), (5, .int r7)] rfl (subl_c rfl (subl_c rfl (subl_c rfl (subl_n)))) ?_
        refine s_aload rfl rfl ?_
        refine s_getF rfl hT6 ho0 rfl ?_
        refine s_iload rfl rfl ?_
        refine s_iald rfl hT6 (of_6_3 ho0) ?_
        refine s_const rfl ?_
        refine sp_ite (fun h8 => ?_) (fun h8 => ?_)
        · refine s_ic0 rfl (zc_ne0 h8) ?_
          refine s_iload rfl rfl ?_
          refine s_aload rfl rfl ?_
          refine s_getF rfl hT6 ho0 rfl ?_
          refine s_iload rfl rfl ?_
          refine s_iald rfl hT6 (of_6_4 ho0) ?_
          refine sp_lt (fun z9 hz9 => ?_)
          refine s_dia (84, [(0, .ref o0), (4, .int p4), (5, .int r7)], [.int (bi z9)], w6) ?_ (fun hk10 => ?_)
          · exact s_retZ (z := z9) rfl rfl hT6 (fun _ _ h => h)
          · by_cases h11 : r7 < wI w6 (o0 + 3) (ix p4)
            · refine s_ic0 rfl (zc_ge0 h11) ?_
              refine s_const rfl ?_
              refine s_goto rfl ?_
              refine s_cong ?_ hk10
              (rw [hz9, if_pos h11]; rfl)
            · refine s_ic1 rfl (zc_ge1 h11) ?_
              refine s_const rfl ?_
              refine s_cong ?_ hk10
              (rw [hz9, if_neg h11]; rfl)
        · refine s_ic1 rfl (zc_ne1 h8) ?_
          refine s_aload rfl rfl ?_
          refine s_getF rfl hT6 ho0 rfl ?_
          refine s_iload rfl rfl ?_
          refine s_iald rfl hT6 (of_6_3 ho0) ?_
          refine s_const rfl ?_
          refine sp_ite (fun h12 => ?_) (fun h12 => ?_)
          · refine s_ic0 rfl (zc_ne0 h12) ?_
            refine s_iload rfl rfl ?_
            refine s_aload rfl rfl ?_
            refine s_getF rfl hT6 ho0 rfl ?_
            refine s_iload rfl rfl ?_
            refine s_iald rfl hT6 (of_6_4 ho0) ?_
            refine sp_ite (fun h13 => ?_) (fun h13 => ?_)
            · refine s_ic0 rfl (zc_ne0 h13) ?_
              refine s_const rfl ?_
              refine s_goto rfl ?_
              exact s_retZ (z := true) rfl rfl hT6 (fun _ _ h => h)
            · refine s_ic1 rfl (zc_ne1 h13) ?_
              refine s_const rfl ?_
              refine s_goto rfl ?_
              exact s_retZ (z := false) rfl rfl hT6 (fun _ _ h => h)
          · refine s_ic1 rfl (zc_ne1 h12) ?_
            refine s_iload rfl rfl ?_
            refine s_aload rfl rfl ?_
            refine s_getF rfl hT6 ho0 rfl ?_
            refine s_iload rfl rfl ?_
            refine s_iald rfl hT6 (of_6_4 ho0) ?_
            refine sp_ite (fun h14 => ?_) (fun h14 => ?_)
            · refine s_ic0 rfl (zc_le0 h14) ?_
              refine s_const rfl ?_
              refine s_goto rfl ?_
              exact s_retZ (z := true) rfl rfl hT6 (fun _ _ h => h)
            · refine s_ic1 rfl (zc_le1 h14) ?_
              refine s_const rfl ?_
              exact s_retZ (z := false) rfl rfl hT6 (fun _ _ h => h)
  · refine s_if1 rfl (zc_lt1 h1) ?_
    refine s_const rfl ?_
    exact s_retZ (z := false) rfl rfl hT (fun _ _ h => h)
/-- RugReader$Sentence.holdsOf(LRugReader$House;LRugReader$Rug;I)Z -/
def sh_168 (o0 : Nat) (o1 : Nat) (o2 : Nat) (p3 : Int32) (w : Wd) : Option (Bool × Wd) := itM (fun (s31 : Int32 × Int32) (w4 : Wd) => match s31 with | (v4_1, v5_2) => jn (fun (s30 : Unit) (w6 : Wd) => lt (if v4_1 &&& 1 = 1 then true else false : Bool) (fun z7 => some (.inr (z7), w6))) (fun j5 => if v5_2 < wI w4 o0 1 then (if v5_2 < 64 then (lt (v4_1 &&& 1 : Int32) (fun v6_12 => lt ((v4_1 >>> (1 &&& 31)) &&& 1 : Int32) (fun v7_13 => gd (ib v5_2 64) (if wI w4 (o0 + 1) (ix v5_2) = 6 then (lt (v4_1 ^^^ 1 : Int32) (fun v4_15 => lt (v5_2 + 1 : Int32) (fun v5_16 => some (.inl (v4_15, v5_16), w4)))) else (gd (ib v5_2 64) (if wI w4 (o0 + 1) (ix v5_2) = 7 then (lt (((v4_1 >>> (2 &&& 31)) <<< (1 &&& 31)) ||| (v6_12 &&& v7_13) : Int32) (fun v4_18 => lt (v5_2 + 1 : Int32) (fun v5_19 => some (.inl (v4_18, v5_19), w4)))) else (gd (ib v5_2 64) (if wI w4 (o0 + 1) (ix v5_2) = 8 then (lt (((v4_1 >>> (2 &&& 31)) <<< (1 &&& 31)) ||| (v6_12 ||| v7_13) : Int32) (fun v4_21 => lt (v5_2 + 1 : Int32) (fun v5_22 => some (.inl (v4_21, v5_22), w4)))) else (cl (sh_169 o0 o1 o2 p3 v5_2 w4) (fun r24 w23 => lt (if r24 = true then true else false : Bool) (fun z25 => lt ((v4_1 <<< (1 &&& 31)) ||| (bi z25) : Int32) (fun v4_26 => lt (v5_2 + 1 : Int32) (fun v5_27 => some (.inl (v4_26, v5_27), w23)))))))))))))) else (j5 () w4)) else (j5 () w4))) FU (0, 0) w
set_option maxRecDepth 20000 in
set_option maxHeartbeats 4000000 in
theorem ev_168 {d : Nat} (hd : 6 ≤ d) {o0 : Nat} {o1 : Nat} {o2 : Nat} {p3 : Int32} {w : Wd} (hT : TY w) (ho0 : ist o0 6) (ho1 : ist o1 1) (ho2 : ist o2 5) : sp (sh_168 o0 o1 o2 p3 w) (fun r w' => TY w' ∧ Ev d 168 [.ref o0, .ref o1, .ref o2, .int p3] w (cvZ r) w') := by
  obtain ⟨d, rfl⟩ : ∃ d', d = d' + 1 := ⟨d - 1, by omega⟩
  refine ev_of (M := M168) zin_168 rfl (by decide) rfl (Nat.le_of_ble_eq_true rfl) (Or.inr ⟨o0, _, rfl, ho0⟩) hT ?_
  show sp _ (PP (Ev d) M168 (KR cvZ) (0, [(0, .ref o0), (1, .ref o1), (2, .ref o2), (3, .int p3)], [], w))
  unfold sh_168
  refine s_const rfl ?_
  refine s_istoreF [(0, .ref o0), (1, .ref o1), (2, .ref o2), (3, .int p3), (4, .int 0)] rfl (subl_c rfl (subl_c rfl (subl_c rfl (subl_c rfl (subl_c rfl (subl_n)))))) ?_
  refine s_const rfl ?_
  refine s_istoreF [(0, .ref o0), (1, .ref o1), (2, .ref o2), (3, .int p3), (4, .int 0), (5, .int 0)] rfl (subl_c rfl (subl_c rfl (subl_c rfl (subl_c rfl (subl_c rfl (subl_c rfl (subl_n))))))) ?_
  let lvL3 : Int32 × Int32 → List (Nat × Value) := fun s31 => [(0, .ref o0), (1, .ref o1), (2, .ref o2), (3, .int p3), (4, .int (s31.1)), (5, .int (s31.2))]
  refine s_loop lvL3 (subl_c rfl (subl_c rfl (subl_c rfl (subl_c rfl (subl_c rfl (subl_c rfl (subl_n))))))) hT (fun s31 w4 hT4 => ?_)
  obtain ⟨v4_1, v5_2⟩ := s31
  show sp _ (PP _ _ _ (6, [(0, .ref o0), (1, .ref o1), (2, .ref o2), (3, .int p3), (4, .int v4_1), (5, .int v5_2)], [], w4))
  refine s_iload rfl rfl ?_
  refine s_aload rfl rfl ?_
  refine s_getI rfl hT4 ho0 ?_
  refine s_jnP (fun (s30 : Unit) w => (145, [(4, .int v4_1)], [], w)) (fun s30 w6 hT6 => ?_) (fun j5 hj5 => ?_)
  · show sp _ (PP _ _ _ (145, [(4, .int v4_1)], [], w6))
    refine s_iload rfl rfl ?_
    refine s_const rfl ?_
    refine s_bin rfl rfl ?_
    refine s_const rfl ?_
    refine sp_lt (fun z7 hz7 => ?_)
    refine s_dia (158, [(4, .int v4_1)], [.int (bi z7)], w6) ?_ (fun hk8 => ?_)
    · exact s_retZ (z := z7) rfl rfl hT6 (fun _ _ h => h)
    · by_cases h9 : v4_1 &&& 1 = 1
      · refine s_ic0 rfl (zc_ne0 h9) ?_
        refine s_const rfl ?_
        refine s_goto rfl ?_
        refine s_cong ?_ hk8
        (rw [hz7, if_pos h9]; rfl)
      · refine s_ic1 rfl (zc_ne1 h9) ?_
        refine s_const rfl ?_
        refine s_cong ?_ hk8
        (rw [hz7, if_neg h9]; rfl)
  · refine sp_ite (fun h10 => ?_) (fun h10 => ?_)
    · refine s_ic0 rfl (zc_ge0 h10) ?_
      refine s_iload rfl rfl ?_
      refine s_const rfl ?_
      refine sp_ite (fun h11 => ?_) (fun h11 => ?_)
      · refine s_ic0 rfl (zc_ge0 h11) ?_
        refine s_iload rfl rfl ?_
        refine s_const rfl ?_
        refine s_bin rfl rfl ?_
        refine s_nmI (fun v6_12 => ?_)
        refine s_istoreF [(0, .ref o0), (1, .ref o1), (2, .ref o2), (3, .int p3), (4, .int v4_1), (5, .int v5_2), (6, .int v6_12)] rfl (subl_c rfl (subl_c rfl (subl_c rfl (subl_c rfl (subl_c rfl (subl_c rfl (subl_c rfl (subl_n)))))))) ?_
        refine s_iload rfl rfl ?_
        refine s_const rfl ?_
        refine s_bin rfl rfl ?_
        refine s_const rfl ?_
        refine s_bin rfl rfl ?_
        refine s_nmI (fun v7_13 => ?_)
        refine s_istoreF [(0, .ref o0), (1, .ref o1), (2, .ref o2), (3, .int p3), (4, .int v4_1), (5, .int v5_2), (6, .int v6_12), (7, .int v7_13)] rfl (subl_c rfl (subl_c rfl (subl_c rfl (subl_c rfl (subl_c rfl (subl_c rfl (subl_c rfl (subl_c rfl (subl_n))))))))) ?_
        refine s_aload rfl rfl ?_
        refine s_getF rfl hT4 ho0 rfl ?_
        refine s_iload rfl rfl ?_
        refine s_iald rfl hT4 (of_6_2 ho0) ?_
        refine s_const rfl ?_
        refine sp_ite (fun h14 => ?_) (fun h14 => ?_)
        · refine s_ic0 rfl (zc_ne0 h14) ?_
          refine s_iload rfl rfl ?_
          refine s_const rfl ?_
          refine s_bin rfl rfl ?_
          refine s_nmI (fun v4_15 => ?_)
          refine s_istoreF [(0, .ref o0), (1, .ref o1), (2, .ref o2), (3, .int p3), (4, .int v4_15), (5, .int v5_2)] rfl (subl_c rfl (subl_c rfl (subl_c rfl (subl_c rfl (subl_c rfl (subl_c rfl (subl_n))))))) ?_
          refine s_goto rfl ?_
          refine s_iincF (fun v5_16 => [(0, .ref o0), (1, .ref o1), (2, .ref o2), (3, .int p3), (4, .int v4_15), (5, .int v5_16)]) rfl rfl (fun _ => subl_c rfl (subl_c rfl (subl_c rfl (subl_c rfl (subl_c rfl (subl_c rfl (subl_n))))))) (fun v5_16 => ?_)
          refine s_goto rfl ?_
          exact s_back (lvL := lvL3) (s' := (v4_15, v5_16)) (subl_c rfl (subl_c rfl (subl_c rfl (subl_c rfl (subl_c rfl (subl_c rfl (subl_n))))))) hT4 (fun _ _ h => h)
        · refine s_ic1 rfl (zc_ne1 h14) ?_
          refine s_aload rfl rfl ?_
          refine s_getF rfl hT4 ho0 rfl ?_
          refine s_iload rfl rfl ?_
          refine s_iald rfl hT4 (of_6_2 ho0) ?_
          refine s_const rfl ?_
          refine sp_ite (fun h17 => ?_) (fun h17 => ?_)
          · refine s_ic0 rfl (zc_ne0 h17) ?_
            refine s_iload rfl rfl ?_
            refine s_const rfl ?_
            refine s_bin rfl rfl ?_
            refine s_const rfl ?_
            refine s_bin rfl rfl ?_
            refine s_iload rfl rfl ?_
            refine s_iload rfl rfl ?_
            refine s_bin rfl rfl ?_
            refine s_bin rfl rfl ?_
            refine s_nmI (fun v4_18 => ?_)
            refine s_istoreF [(0, .ref o0), (1, .ref o1), (2, .ref o2), (3, .int p3), (4, .int v4_18), (5, .int v5_2)] rfl (subl_c rfl (subl_c rfl (subl_c rfl (subl_c rfl (subl_c rfl (subl_c rfl (subl_n))))))) ?_
            refine s_goto rfl ?_
            refine s_iincF (fun v5_19 => [(0, .ref o0), (1, .ref o1), (2, .ref o2), (3, .int p3), (4, .int v4_18), (5, .int v5_19)]) rfl rfl (fun _ => subl_c rfl (subl_c rfl (subl_c rfl (subl_c rfl (subl_c rfl (subl_c rfl (subl_n))))))) (fun v5_19 => ?_)
            refine s_goto rfl ?_
            exact s_back (lvL := lvL3) (s' := (v4_18, v5_19)) (subl_c rfl (subl_c rfl (subl_c rfl (subl_c rfl (subl_c rfl (subl_c rfl (subl_n))))))) hT4 (fun _ _ h => h)
          · refine s_ic1 rfl (zc_ne1 h17) ?_
            refine s_aload rfl rfl ?_
            refine s_getF rfl hT4 ho0 rfl ?_
            refine s_iload rfl rfl ?_
            refine s_iald rfl hT4 (of_6_2 ho0) ?_
            refine s_const rfl ?_
            refine sp_ite (fun h20 => ?_) (fun h20 => ?_)
            · refine s_ic0 rfl (zc_ne0 h20) ?_
              refine s_iload rfl rfl ?_
              refine s_const rfl ?_
              refine s_bin rfl rfl ?_
              refine s_const rfl ?_
              refine s_bin rfl rfl ?_
              refine s_iload rfl rfl ?_
              refine s_iload rfl rfl ?_
              refine s_bin rfl rfl ?_
              refine s_bin rfl rfl ?_
              refine s_nmI (fun v4_21 => ?_)
              refine s_istoreF [(0, .ref o0), (1, .ref o1), (2, .ref o2), (3, .int p3), (4, .int v4_21), (5, .int v5_2)] rfl (subl_c rfl (subl_c rfl (subl_c rfl (subl_c rfl (subl_c rfl (subl_c rfl (subl_n))))))) ?_
              refine s_goto rfl ?_
              refine s_iincF (fun v5_22 => [(0, .ref o0), (1, .ref o1), (2, .ref o2), (3, .int p3), (4, .int v4_21), (5, .int v5_22)]) rfl rfl (fun _ => subl_c rfl (subl_c rfl (subl_c rfl (subl_c rfl (subl_c rfl (subl_c rfl (subl_n))))))) (fun v5_22 => ?_)
              refine s_goto rfl ?_
              exact s_back (lvL := lvL3) (s' := (v4_21, v5_22)) (subl_c rfl (subl_c rfl (subl_c rfl (subl_c rfl (subl_c rfl (subl_c rfl (subl_n))))))) hT4 (fun _ _ h => h)
            · refine s_ic1 rfl (zc_ne1 h20) ?_
              refine s_iload rfl rfl ?_
              refine s_const rfl ?_
              refine s_bin rfl rfl ?_
              refine s_aload rfl rfl ?_
              refine s_aload rfl rfl ?_
              refine s_aload rfl rfl ?_
              refine s_iload rfl rfl ?_
              refine s_iload rfl rfl ?_
              refine s_callZ [.ref o0, .ref o1, .ref o2, .int p3, .int v5_2] [.int (v4_1 <<< (1 &&& 31))] rfl rfl (Nat.le_of_ble_eq_true rfl) (ev_169 (d := d) (by omega) hT4 ho0 ho1 ho2) (fun r24 w23 hT23 => ?_)
              refine sp_lt (fun z25 hz25 => ?_)
              refine s_dia (136, [(0, .ref o0), (1, .ref o1), (2, .ref o2), (3, .int p3), (4, .int v4_1), (5, .int v5_2), (6, .int v6_12), (7, .int v7_13)], [.int (bi z25), .int (v4_1 <<< (1 &&& 31))], w23) ?_ (fun hk28 => ?_)
              · refine s_bin rfl rfl ?_
                refine s_nmI (fun v4_26 => ?_)
                refine s_istoreF [(0, .ref o0), (1, .ref o1), (2, .ref o2), (3, .int p3), (4, .int v4_26), (5, .int v5_2)] rfl (subl_c rfl (subl_c rfl (subl_c rfl (subl_c rfl (subl_c rfl (subl_c rfl (subl_n))))))) ?_
                refine s_iincF (fun v5_27 => [(0, .ref o0), (1, .ref o1), (2, .ref o2), (3, .int p3), (4, .int v4_26), (5, .int v5_27)]) rfl rfl (fun _ => subl_c rfl (subl_c rfl (subl_c rfl (subl_c rfl (subl_c rfl (subl_c rfl (subl_n))))))) (fun v5_27 => ?_)
                refine s_goto rfl ?_
                exact s_back (lvL := lvL3) (s' := (v4_26, v5_27)) (subl_c rfl (subl_c rfl (subl_c rfl (subl_c rfl (subl_c rfl (subl_c rfl (subl_n))))))) hT23 (fun _ _ h => h)
              · by_cases h29 : r24 = true
                · refine s_if0 rfl (zb_eq0 h29) ?_
                  refine s_const rfl ?_
                  refine s_goto rfl ?_
                  refine s_cong ?_ hk28
                  (rw [hz25, if_pos h29]; rfl)
                · refine s_if1 rfl (zb_eq1 h29) ?_
                  refine s_const rfl ?_
                  refine s_cong ?_ hk28
                  (rw [hz25, if_neg h29]; rfl)
      · refine s_ic1 rfl (zc_ge1 h11) ?_
        exact s_fgt _ (subl_c rfl (subl_n)) (hj5 () w4 hT4)
    · refine s_ic1 rfl (zc_ge1 h10) ?_
      exact s_fgt _ (subl_c rfl (subl_n)) (hj5 () w4 hT4)
/-- RugReader.said(I)I -/
def sh_167 (o0 : Nat) (p1 : Int32) (w : Wd) : Option (Int32 × Wd) := der (wR w o0 4) (fun a1 => if wI w a1 0 = 0 then (some ((-1), w)) else (itM (fun (s21 : Int32 × Int32) (w6 : Wd) => match s21 with | (v2_3, v3_4) => der (wR w6 o0 2) (fun a7 => if v3_4 < wI w6 a7 3 then (der (wR w6 o0 4) (fun a9 => der (wR w6 o0 2) (fun a10 => cl (sh_168 a9 a10 (o0 + 35) v3_4 w6) (fun r12 w11 => if r12 = true then (if v2_3 = p1 then (some (.inr (v3_4), w11)) else (lt (v2_3 + 1 : Int32) (fun v2_15 => lt (v3_4 + 1 : Int32) (fun v3_16 => some (.inl (v2_15, v3_16), w11))))) else (lt (v3_4 + 1 : Int32) (fun v3_17 => some (.inl (v2_3, v3_17), w11))))))) else (lt (if p1 = (-1) then v2_3 else (-1) : Int32) (fun z18 => some (.inr (z18), w6))))) FU (0, 0) w))
set_option maxRecDepth 20000 in
set_option maxHeartbeats 4000000 in
theorem ev_167 {d : Nat} (hd : 7 ≤ d) {o0 : Nat} {p1 : Int32} {w : Wd} (hT : TY w) (ho0 : ist o0 9) : sp (sh_167 o0 p1 w) (fun r w' => TY w' ∧ Ev d 167 [.ref o0, .int p1] w (cvI r) w') := by
  obtain ⟨d, rfl⟩ : ∃ d', d = d' + 1 := ⟨d - 1, by omega⟩
  refine ev_of (M := M167) zin_167 rfl (by decide) rfl (Nat.le_of_ble_eq_true rfl) (Or.inr ⟨o0, _, rfl, ho0⟩) hT ?_
  show sp _ (PP (Ev d) M167 (KR cvI) (0, [(0, .ref o0), (1, .int p1)], [], w))
  unfold sh_167
  refine s_aload rfl rfl ?_
  refine s_getD rfl hT ho0 (by decide) rfl (fun a1 ha1 => ?_)
  refine s_getI rfl hT ha1 ?_
  refine sp_ite (fun h2 => ?_) (fun h2 => ?_)
  · refine s_if0 rfl (zc_ne0 h2) ?_
    refine s_const rfl ?_
    exact s_retI rfl rfl hT (fun _ _ h => h)
  · refine s_if1 rfl (zc_ne1 h2) ?_
    refine s_const rfl ?_
    refine s_istoreF [(0, .ref o0), (1, .int p1), (2, .int 0)] rfl (subl_c rfl (subl_c rfl (subl_c rfl (subl_n)))) ?_
    refine s_const rfl ?_
    refine s_istoreF [(0, .ref o0), (1, .int p1), (2, .int 0), (3, .int 0)] rfl (subl_c rfl (subl_c rfl (subl_c rfl (subl_c rfl (subl_n))))) ?_
    let lvL5 : Int32 × Int32 → List (Nat × Value) := fun s21 => [(0, .ref o0), (1, .int p1), (2, .int (s21.1)), (3, .int (s21.2))]
    refine s_loop lvL5 (subl_c rfl (subl_c rfl (subl_c rfl (subl_c rfl (subl_n))))) hT (fun s21 w6 hT6 => ?_)
    obtain ⟨v2_3, v3_4⟩ := s21
    show sp _ (PP _ _ _ (16, [(0, .ref o0), (1, .int p1), (2, .int v2_3), (3, .int v3_4)], [], w6))
    refine s_iload rfl rfl ?_
    refine s_aload rfl rfl ?_
    refine s_getD rfl hT6 ho0 (by decide) rfl (fun a7 ha7 => ?_)
    refine s_getI rfl hT6 ha7 ?_
    refine sp_ite (fun h8 => ?_) (fun h8 => ?_)
    · refine s_ic0 rfl (zc_ge0 h8) ?_
      refine s_aload rfl rfl ?_
      refine s_getD rfl hT6 ho0 (by decide) rfl (fun a9 ha9 => ?_)
      refine s_aload rfl rfl ?_
      refine s_getD rfl hT6 ho0 (by decide) rfl (fun a10 ha10 => ?_)
      refine s_aload rfl rfl ?_
      refine s_getF rfl hT6 ho0 rfl ?_
      refine s_iload rfl rfl ?_
      refine s_callZ [.ref a9, .ref a10, .ref (o0 + 35), .int v3_4] [] rfl rfl (Nat.le_of_ble_eq_true rfl) (ev_168 (d := d) (by omega) hT6 ha9 ha10 (of_9_6 ho0)) (fun r12 w11 hT11 => ?_)
      refine sp_ite (fun h13 => ?_) (fun h13 => ?_)
      · refine s_if0 rfl (zb_eq0 h13) ?_
        refine s_iload rfl rfl ?_
        refine s_iload rfl rfl ?_
        refine sp_ite (fun h14 => ?_) (fun h14 => ?_)
        · refine s_ic0 rfl (zc_ne0 h14) ?_
          refine s_iload rfl rfl ?_
          exact s_retI rfl rfl hT11 (fun _ _ h => h)
        · refine s_ic1 rfl (zc_ne1 h14) ?_
          refine s_iincF (fun v2_15 => [(0, .ref o0), (1, .int p1), (2, .int v2_15), (3, .int v3_4)]) rfl rfl (fun _ => subl_c rfl (subl_c rfl (subl_c rfl (subl_c rfl (subl_n))))) (fun v2_15 => ?_)
          refine s_iincF (fun v3_16 => [(0, .ref o0), (1, .int p1), (2, .int v2_15), (3, .int v3_16)]) rfl rfl (fun _ => subl_c rfl (subl_c rfl (subl_c rfl (subl_c rfl (subl_n))))) (fun v3_16 => ?_)
          refine s_goto rfl ?_
          exact s_back (lvL := lvL5) (s' := (v2_15, v3_16)) (subl_c rfl (subl_c rfl (subl_c rfl (subl_c rfl (subl_n))))) hT11 (fun _ _ h => h)
      · refine s_if1 rfl (zb_eq1 h13) ?_
        refine s_iincF (fun v3_17 => [(0, .ref o0), (1, .int p1), (2, .int v2_3), (3, .int v3_17)]) rfl rfl (fun _ => subl_c rfl (subl_c rfl (subl_c rfl (subl_c rfl (subl_n))))) (fun v3_17 => ?_)
        refine s_goto rfl ?_
        exact s_back (lvL := lvL5) (s' := (v2_3, v3_17)) (subl_c rfl (subl_c rfl (subl_c rfl (subl_c rfl (subl_n))))) hT11 (fun _ _ h => h)
    · refine s_ic1 rfl (zc_ge1 h8) ?_
      refine s_iload rfl rfl ?_
      refine s_const rfl ?_
      refine sp_lt (fun z18 hz18 => ?_)
      refine s_dia (72, [(0, .ref o0), (1, .int p1), (2, .int v2_3), (3, .int v3_4)], [.int z18], w6) ?_ (fun hk19 => ?_)
      · exact s_retI rfl rfl hT6 (fun _ _ h => h)
      · by_cases h20 : p1 = (-1)
        · refine s_ic0 rfl (zc_ne0 h20) ?_
          refine s_iload rfl rfl ?_
          refine s_goto rfl ?_
          refine s_cong ?_ hk19
          (rw [hz18, if_pos h20])
        · refine s_ic1 rfl (zc_ne1 h20) ?_
          refine s_const rfl ?_
          refine s_cong ?_ hk19
          (rw [hz18, if_neg h20])
/-- RugReader$House.copyFrom(LRugReader$House;)V -/
def sh_176 (o0 : Nat) (o1 : Nat) (w : Wd) : Option (Unit × Wd) := stI w o0 0 (wI w o1 0) (fun w1 => stI w1 o0 1 (wI w1 o1 1) (fun w2 => stI w2 o0 2 (wI w2 o1 2) (fun w3 => stI w3 o0 3 (wI w3 o1 3) (fun w4 => stI w4 o0 4 (wI w4 o1 4) (fun w5 => stI w5 o0 5 (wI w5 o1 5) (fun w6 => stI w6 o0 6 (wI w6 o1 6) (fun w7 => cpI w7 (o1 + 1) 6 0 (o0 + 1) 6 0 6 (fun w8 => cpI w8 (o1 + 2) 6 0 (o0 + 2) 6 0 6 (fun w9 => cpI w9 (o1 + 3) 6 0 (o0 + 3) 6 0 6 (fun w10 => cpL w10 (o1 + 4) 6 0 (o0 + 4) 6 0 6 (fun w11 => cpL w11 (o1 + 5) 6 0 (o0 + 5) 6 0 6 (fun w12 => cpI w12 (o1 + 6) 6 0 (o0 + 6) 6 0 6 (fun w13 => cpI w13 (o1 + 7) 246 0 (o0 + 7) 246 0 246 (fun w14 => cpI w14 (o1 + 9) 8 0 (o0 + 9) 8 0 8 (fun w15 => itM (fun (v2_16 : Int32) (w18 : Wd) => if v2_16 < 144 then (gd (ib v2_16 144) (gd (ib v2_16 144) (stI w18 (o0 + 8) (ix v2_16) (vp_nar .boolean (wI w18 (o1 + 8) (ix v2_16))) (fun w20 => lt (v2_16 + 1 : Int32) (fun v2_21 => some (.inl v2_21, w20)))))) else (some (.inr (()), w18))) FU 0 w15)))))))))))))))
set_option maxRecDepth 20000 in
set_option maxHeartbeats 4000000 in
theorem ev_176 {d : Nat} (hd : 1 ≤ d) {o0 : Nat} {o1 : Nat} {w : Wd} (hT : TY w) (ho0 : ist o0 1) (ho1 : ist o1 1) : sp (sh_176 o0 o1 w) (fun r w' => TY w' ∧ Ev d 176 [.ref o0, .ref o1] w (cvV r) w') := by
  obtain ⟨d, rfl⟩ : ∃ d', d = d' + 1 := ⟨d - 1, by omega⟩
  refine ev_of (M := M176) zin_176 rfl (by decide) rfl (Nat.le_of_ble_eq_true rfl) (Or.inr ⟨o0, _, rfl, ho0⟩) hT ?_
  show sp _ (PP (Ev d) M176 (KR cvV) (0, [(0, .ref o0), (1, .ref o1)], [], w))
  unfold sh_176
  refine s_aload rfl rfl ?_
  refine s_aload rfl rfl ?_
  refine s_getI rfl hT ho1 ?_
  refine s_putI rfl hT ho0 rfl (fun w1 hT1 => ?_)
  refine s_aload rfl rfl ?_
  refine s_aload rfl rfl ?_
  refine s_getI rfl hT1 ho1 ?_
  refine s_putI rfl hT1 ho0 rfl (fun w2 hT2 => ?_)
  refine s_aload rfl rfl ?_
  refine s_aload rfl rfl ?_
  refine s_getI rfl hT2 ho1 ?_
  refine s_putI rfl hT2 ho0 rfl (fun w3 hT3 => ?_)
  refine s_aload rfl rfl ?_
  refine s_aload rfl rfl ?_
  refine s_getI rfl hT3 ho1 ?_
  refine s_putI rfl hT3 ho0 rfl (fun w4 hT4 => ?_)
  refine s_aload rfl rfl ?_
  refine s_aload rfl rfl ?_
  refine s_getI rfl hT4 ho1 ?_
  refine s_putI rfl hT4 ho0 rfl (fun w5 hT5 => ?_)
  refine s_aload rfl rfl ?_
  refine s_aload rfl rfl ?_
  refine s_getI rfl hT5 ho1 ?_
  refine s_putI rfl hT5 ho0 rfl (fun w6 hT6 => ?_)
  refine s_aload rfl rfl ?_
  refine s_aload rfl rfl ?_
  refine s_getI rfl hT6 ho1 ?_
  refine s_putI rfl hT6 ho0 rfl (fun w7 hT7 => ?_)
  refine s_aload rfl rfl ?_
  refine s_getF rfl hT7 ho1 rfl ?_
  refine s_const rfl ?_
  refine s_aload rfl rfl ?_
  refine s_getF rfl hT7 ho0 rfl ?_
  refine s_const rfl ?_
  refine s_const rfl ?_
  refine s_cpI rfl hT7 (of_1_7 ho1) (of_1_7 ho0) (Nat.le_of_ble_eq_true rfl) (fun w8 hT8 => ?_)
  refine s_aload rfl rfl ?_
  refine s_getF rfl hT8 ho1 rfl ?_
  refine s_const rfl ?_
  refine s_aload rfl rfl ?_
  refine s_getF rfl hT8 ho0 rfl ?_
  refine s_const rfl ?_
  refine s_const rfl ?_
  refine s_cpI rfl hT8 (of_1_8 ho1) (of_1_8 ho0) (Nat.le_of_ble_eq_true rfl) (fun w9 hT9 => ?_)
  refine s_aload rfl rfl ?_
  refine s_getF rfl hT9 ho1 rfl ?_
  refine s_const rfl ?_
  refine s_aload rfl rfl ?_
  refine s_getF rfl hT9 ho0 rfl ?_
  refine s_const rfl ?_
  refine s_const rfl ?_
  refine s_cpI rfl hT9 (of_1_9 ho1) (of_1_9 ho0) (Nat.le_of_ble_eq_true rfl) (fun w10 hT10 => ?_)
  refine s_aload rfl rfl ?_
  refine s_getF rfl hT10 ho1 rfl ?_
  refine s_const rfl ?_
  refine s_aload rfl rfl ?_
  refine s_getF rfl hT10 ho0 rfl ?_
  refine s_const rfl ?_
  refine s_const rfl ?_
  refine s_cpL rfl hT10 (of_1_10 ho1) (of_1_10 ho0) (Nat.le_of_ble_eq_true rfl) (fun w11 hT11 => ?_)
  refine s_aload rfl rfl ?_
  refine s_getF rfl hT11 ho1 rfl ?_
  refine s_const rfl ?_
  refine s_aload rfl rfl ?_
  refine s_getF rfl hT11 ho0 rfl ?_
  refine s_const rfl ?_
  refine s_const rfl ?_
  refine s_cpL rfl hT11 (of_1_11 ho1) (of_1_11 ho0) (Nat.le_of_ble_eq_true rfl) (fun w12 hT12 => ?_)
  refine s_aload rfl rfl ?_
  refine s_getF rfl hT12 ho1 rfl ?_
  refine s_const rfl ?_
  refine s_aload rfl rfl ?_
  refine s_getF rfl hT12 ho0 rfl ?_
  refine s_const rfl ?_
  refine s_const rfl ?_
  refine s_cpI rfl hT12 (of_1_12 ho1) (of_1_12 ho0) (Nat.le_of_ble_eq_true rfl) (fun w13 hT13 => ?_)
  refine s_aload rfl rfl ?_
  refine s_getF rfl hT13 ho1 rfl ?_
  refine s_const rfl ?_
  refine s_aload rfl rfl ?_
  refine s_getF rfl hT13 ho0 rfl ?_
  refine s_const rfl ?_
  refine s_const rfl ?_
  refine s_cpI rfl hT13 (of_1_13 ho1) (of_1_13 ho0) (Nat.le_of_ble_eq_true rfl) (fun w14 hT14 => ?_)
  refine s_aload rfl rfl ?_
  refine s_getF rfl hT14 ho1 rfl ?_
  refine s_const rfl ?_
  refine s_aload rfl rfl ?_
  refine s_getF rfl hT14 ho0 rfl ?_
  refine s_const rfl ?_
  refine s_const rfl ?_
  refine s_cpI rfl hT14 (of_1_15 ho1) (of_1_15 ho0) (Nat.le_of_ble_eq_true rfl) (fun w15 hT15 => ?_)
  refine s_const rfl ?_
  refine s_istoreF [(0, .ref o0), (1, .ref o1), (2, .int 0)] rfl (subl_c rfl (subl_c rfl (subl_c rfl (subl_n)))) ?_
  let lvL17 : Int32 → List (Nat × Value) := fun s22 => [(0, .ref o0), (1, .ref o1), (2, .int s22)]
  refine s_loop lvL17 (subl_c rfl (subl_c rfl (subl_c rfl (subl_n)))) hT15 (fun v2_16 w18 hT18 => ?_)
  show sp _ (PP _ _ _ (179, [(0, .ref o0), (1, .ref o1), (2, .int v2_16)], [], w18))
  refine s_iload rfl rfl ?_
  refine s_const rfl ?_
  refine sp_ite (fun h19 => ?_) (fun h19 => ?_)
  · refine s_ic0 rfl (zc_ge0 h19) ?_
    refine s_aload rfl rfl ?_
    refine s_getF rfl hT18 ho0 rfl ?_
    refine s_iload rfl rfl ?_
    refine s_aload rfl rfl ?_
    refine s_getF rfl hT18 ho1 rfl ?_
    refine s_iload rfl rfl ?_
    refine s_bald rfl hT18 (of_1_14 ho1) (Or.inr rfl) ?_
    refine s_zast rfl hT18 (of_1_14 ho0) rfl (fun w20 hT20 => ?_)
    refine s_iincF (fun v2_21 => [(0, .ref o0), (1, .ref o1), (2, .int v2_21)]) rfl rfl (fun _ => subl_c rfl (subl_c rfl (subl_c rfl (subl_n)))) (fun v2_21 => ?_)
    refine s_goto rfl ?_
    exact s_back (lvL := lvL17) (s' := v2_21) (subl_c rfl (subl_c rfl (subl_c rfl (subl_n)))) hT20 (fun _ _ h => h)
  · refine s_ic1 rfl (zc_ge1 h19) ?_
    exact s_retV rfl rfl hT18 (fun _ _ h => h)
/-- RugReader$Sentence.copyFrom(LRugReader$Sentence;)V -/
def sh_177 (o0 : Nat) (o1 : Nat) (w : Wd) : Option (Unit × Wd) := stI w o0 0 (wI w o1 0) (fun w1 => stI w1 o0 1 (wI w1 o1 1) (fun w2 => cpI w2 (o1 + 1) 64 0 (o0 + 1) 64 0 64 (fun w3 => cpI w3 (o1 + 2) 64 0 (o0 + 2) 64 0 64 (fun w4 => cpI w4 (o1 + 3) 64 0 (o0 + 3) 64 0 64 (fun w5 => some ((), w5))))))
set_option maxRecDepth 20000 in
set_option maxHeartbeats 4000000 in
theorem ev_177 {d : Nat} (hd : 1 ≤ d) {o0 : Nat} {o1 : Nat} {w : Wd} (hT : TY w) (ho0 : ist o0 6) (ho1 : ist o1 6) : sp (sh_177 o0 o1 w) (fun r w' => TY w' ∧ Ev d 177 [.ref o0, .ref o1] w (cvV r) w') := by
  obtain ⟨d, rfl⟩ : ∃ d', d = d' + 1 := ⟨d - 1, by omega⟩
  refine ev_of (M := M177) zin_177 rfl (by decide) rfl (Nat.le_of_ble_eq_true rfl) (Or.inr ⟨o0, _, rfl, ho0⟩) hT ?_
  show sp _ (PP (Ev d) M177 (KR cvV) (0, [(0, .ref o0), (1, .ref o1)], [], w))
  unfold sh_177
  refine s_aload rfl rfl ?_
  refine s_aload rfl rfl ?_
  refine s_getI rfl hT ho1 ?_
  refine s_putI rfl hT ho0 rfl (fun w1 hT1 => ?_)
  refine s_aload rfl rfl ?_
  refine s_aload rfl rfl ?_
  refine s_getI rfl hT1 ho1 ?_
  refine s_putI rfl hT1 ho0 rfl (fun w2 hT2 => ?_)
  refine s_aload rfl rfl ?_
  refine s_getF rfl hT2 ho1 rfl ?_
  refine s_const rfl ?_
  refine s_aload rfl rfl ?_
  refine s_getF rfl hT2 ho0 rfl ?_
  refine s_const rfl ?_
  refine s_const rfl ?_
  refine s_cpI rfl hT2 (of_6_2 ho1) (of_6_2 ho0) (Nat.le_of_ble_eq_true rfl) (fun w3 hT3 => ?_)
  refine s_aload rfl rfl ?_
  refine s_getF rfl hT3 ho1 rfl ?_
  refine s_const rfl ?_
  refine s_aload rfl rfl ?_
  refine s_getF rfl hT3 ho0 rfl ?_
  refine s_const rfl ?_
  refine s_const rfl ?_
  refine s_cpI rfl hT3 (of_6_3 ho1) (of_6_3 ho0) (Nat.le_of_ble_eq_true rfl) (fun w4 hT4 => ?_)
  refine s_aload rfl rfl ?_
  refine s_getF rfl hT4 ho1 rfl ?_
  refine s_const rfl ?_
  refine s_aload rfl rfl ?_
  refine s_getF rfl hT4 ho0 rfl ?_
  refine s_const rfl ?_
  refine s_const rfl ?_
  refine s_cpI rfl hT4 (of_6_4 ho1) (of_6_4 ho0) (Nat.le_of_ble_eq_true rfl) (fun w5 hT5 => ?_)
  exact s_retV rfl rfl hT5 (fun _ _ h => h)
/-- RugReader.image(I)Z -/
def sh_175 (o0 : Nat) (p1 : Int32) (w : Wd) : Option (Bool × Wd) := if 0 ≤ p1 then (if 2 ≤ p1 then (some (false, w)) else (gd (ib p1 2) (gd (ib p1 2) (gd (ib p1 2) (der (wR w o0 2) (fun a6 => cl (sh_176 (122 + 22 * ix p1) a6 w) (fun _ w7 => cl (sh_72 (132 + 22 * ix p1) (o0 + 35) w7) (fun _ w9 => der (wR w9 o0 4) (fun a11 => cl (sh_177 (140 + 22 * ix p1) a11 w9) (fun _ w12 => gd (ib p1 2) (stI w12 (o0 + 47) (ix p1) 1 (fun w14 => some (true, w14))))))))))))) else (some (false, w))
set_option maxRecDepth 20000 in
set_option maxHeartbeats 4000000 in
theorem ev_175 {d : Nat} (hd : 2 ≤ d) {o0 : Nat} {p1 : Int32} {w : Wd} (hT : TY w) (ho0 : ist o0 9) : sp (sh_175 o0 p1 w) (fun r w' => TY w' ∧ Ev d 175 [.ref o0, .int p1] w (cvZ r) w') := by
  obtain ⟨d, rfl⟩ : ∃ d', d = d' + 1 := ⟨d - 1, by omega⟩
  refine ev_of (M := M175) zin_175 rfl (by decide) rfl (Nat.le_of_ble_eq_true rfl) (Or.inr ⟨o0, _, rfl, ho0⟩) hT ?_
  show sp _ (PP (Ev d) M175 (KR cvZ) (0, [(0, .ref o0), (1, .int p1)], [], w))
  unfold sh_175
  refine s_iload rfl rfl ?_
  refine sp_ite (fun h1 => ?_) (fun h1 => ?_)
  · refine s_if0 rfl (zc_lt0 h1) ?_
    refine s_iload rfl rfl ?_
    refine s_const rfl ?_
    refine sp_ite (fun h2 => ?_) (fun h2 => ?_)
    · refine s_ic0 rfl (zc_lt0 h2) ?_
      refine s_const rfl ?_
      exact s_retZ (z := false) rfl rfl hT (fun _ _ h => h)
    · refine s_ic1 rfl (zc_lt1 h2) ?_
      refine s_aload rfl rfl ?_
      refine s_getF rfl hT ho0 rfl ?_
      refine s_iload rfl rfl ?_
      refine s_kh rfl hT ho0 (fun ha3 => ?_)
      refine s_astoreF [(0, .ref o0), (1, .int p1), (2, .ref (122 + 22 * ix p1))] rfl (subl_c rfl (subl_c rfl (subl_c rfl (subl_n)))) ?_
      refine s_aload rfl rfl ?_
      refine s_getF rfl hT ho0 rfl ?_
      refine s_iload rfl rfl ?_
      refine s_kr rfl hT ho0 (fun ha4 => ?_)
      refine s_astoreF [(0, .ref o0), (1, .int p1), (2, .ref (122 + 22 * ix p1)), (3, .ref (132 + 22 * ix p1))] rfl (subl_c rfl (subl_c rfl (subl_c rfl (subl_c rfl (subl_n))))) ?_
      refine s_aload rfl rfl ?_
      refine s_getF rfl hT ho0 rfl ?_
      refine s_iload rfl rfl ?_
      refine s_ks rfl hT ho0 (fun ha5 => ?_)
      refine s_astoreF [(0, .ref o0), (1, .int p1), (2, .ref (122 + 22 * ix p1)), (3, .ref (132 + 22 * ix p1)), (4, .ref (140 + 22 * ix p1))] rfl (subl_c rfl (subl_c rfl (subl_c rfl (subl_c rfl (subl_c rfl (subl_n)))))) ?_
      refine s_aload rfl rfl ?_
      refine s_null0 rfl ?_
      refine s_aload rfl rfl ?_
      refine s_null0 rfl ?_
      refine s_aload rfl rfl ?_
      refine s_nonnull1 rfl ?_
      refine s_aload rfl rfl ?_
      refine s_aload rfl rfl ?_
      refine s_getD rfl hT ho0 (by decide) rfl (fun a6 ha6 => ?_)
      refine s_callV [.ref (122 + 22 * ix p1), .ref a6] [] rfl rfl (Nat.le_of_ble_eq_true rfl) (ev_176 (d := d) (by omega) hT ha3 ha6) (fun _ w7 hT7 => ?_)
      refine s_aload rfl rfl ?_
      refine s_aload rfl rfl ?_
      refine s_getF rfl hT7 ho0 rfl ?_
      refine s_callV [.ref (132 + 22 * ix p1), .ref (o0 + 35)] [] rfl rfl (Nat.le_of_ble_eq_true rfl) (ev_72 (d := d) (by omega) hT7 ha4 (of_9_6 ho0)) (fun _ w9 hT9 => ?_)
      refine s_aload rfl rfl ?_
      refine s_aload rfl rfl ?_
      refine s_getD rfl hT9 ho0 (by decide) rfl (fun a11 ha11 => ?_)
      refine s_callV [.ref (140 + 22 * ix p1), .ref a11] [] rfl rfl (Nat.le_of_ble_eq_true rfl) (ev_177 (d := d) (by omega) hT9 ha5 ha11) (fun _ w12 hT12 => ?_)
      refine s_aload rfl rfl ?_
      refine s_getF rfl hT12 ho0 rfl ?_
      refine s_iload rfl rfl ?_
      refine s_const rfl ?_
      refine s_zast rfl hT12 (of_9_13 ho0) rfl (fun w14 hT14 => ?_)
      refine s_const rfl ?_
      exact s_retZ (z := true) rfl rfl hT14 (fun _ _ h => h)
  · refine s_if1 rfl (zc_lt1 h1) ?_
    refine s_const rfl ?_
    exact s_retZ (z := false) rfl rfl hT (fun _ _ h => h)
/-- RugReader.restore(I)Z -/
def sh_178 (o0 : Nat) (p1 : Int32) (w : Wd) : Option (Bool × Wd) := if 0 ≤ p1 then (if p1 < 2 then (gd (ib p1 2) (if wI w (o0 + 47) (ix p1) = 0 then (some (false, w)) else (gd (ib p1 2) (gd (ib p1 2) (gd (ib p1 2) (der (wR w o0 2) (fun a7 => cl (sh_176 a7 (122 + 22 * ix p1) w) (fun _ w8 => cl (sh_72 (o0 + 35) (132 + 22 * ix p1) w8) (fun _ w10 => der (wR w10 o0 4) (fun a12 => cl (sh_177 a12 (140 + 22 * ix p1) w10) (fun _ w13 => stI w13 o0 9 0 (fun w15 => some (true, w15))))))))))))) else (some (false, w))) else (some (false, w))
set_option maxRecDepth 20000 in
set_option maxHeartbeats 4000000 in
theorem ev_178 {d : Nat} (hd : 2 ≤ d) {o0 : Nat} {p1 : Int32} {w : Wd} (hT : TY w) (ho0 : ist o0 9) : sp (sh_178 o0 p1 w) (fun r w' => TY w' ∧ Ev d 178 [.ref o0, .int p1] w (cvZ r) w') := by
  obtain ⟨d, rfl⟩ : ∃ d', d = d' + 1 := ⟨d - 1, by omega⟩
  refine ev_of (M := M178) zin_178 rfl (by decide) rfl (Nat.le_of_ble_eq_true rfl) (Or.inr ⟨o0, _, rfl, ho0⟩) hT ?_
  show sp _ (PP (Ev d) M178 (KR cvZ) (0, [(0, .ref o0), (1, .int p1)], [], w))
  unfold sh_178
  refine s_iload rfl rfl ?_
  refine sp_ite (fun h1 => ?_) (fun h1 => ?_)
  · refine s_if0 rfl (zc_lt0 h1) ?_
    refine s_iload rfl rfl ?_
    refine s_const rfl ?_
    refine sp_ite (fun h2 => ?_) (fun h2 => ?_)
    · refine s_ic0 rfl (zc_ge0 h2) ?_
      refine s_aload rfl rfl ?_
      refine s_getF rfl hT ho0 rfl ?_
      refine s_iload rfl rfl ?_
      refine s_bald rfl hT (of_9_13 ho0) (Or.inr rfl) ?_
      refine sp_ite (fun h3 => ?_) (fun h3 => ?_)
      · refine s_if0 rfl (zc_ne0 h3) ?_
        refine s_const rfl ?_
        exact s_retZ (z := false) rfl rfl hT (fun _ _ h => h)
      · refine s_if1 rfl (zc_ne1 h3) ?_
        refine s_aload rfl rfl ?_
        refine s_getF rfl hT ho0 rfl ?_
        refine s_iload rfl rfl ?_
        refine s_kh rfl hT ho0 (fun ha4 => ?_)
        refine s_astoreF [(0, .ref o0), (1, .int p1), (2, .ref (122 + 22 * ix p1))] rfl (subl_c rfl (subl_c rfl (subl_c rfl (subl_n)))) ?_
        refine s_aload rfl rfl ?_
        refine s_getF rfl hT ho0 rfl ?_
        refine s_iload rfl rfl ?_
        refine s_kr rfl hT ho0 (fun ha5 => ?_)
        refine s_astoreF [(0, .ref o0), (1, .int p1), (2, .ref (122 + 22 * ix p1)), (3, .ref (132 + 22 * ix p1))] rfl (subl_c rfl (subl_c rfl (subl_c rfl (subl_c rfl (subl_n))))) ?_
        refine s_aload rfl rfl ?_
        refine s_getF rfl hT ho0 rfl ?_
        refine s_iload rfl rfl ?_
        refine s_ks rfl hT ho0 (fun ha6 => ?_)
        refine s_astoreF [(0, .ref o0), (2, .ref (122 + 22 * ix p1)), (3, .ref (132 + 22 * ix p1)), (4, .ref (140 + 22 * ix p1))] rfl (subl_c rfl (subl_c rfl (subl_c rfl (subl_c rfl (subl_n))))) ?_
        refine s_aload rfl rfl ?_
        refine s_null0 rfl ?_
        refine s_aload rfl rfl ?_
        refine s_null0 rfl ?_
        refine s_aload rfl rfl ?_
        refine s_nonnull1 rfl ?_
        refine s_aload rfl rfl ?_
        refine s_getD rfl hT ho0 (by decide) rfl (fun a7 ha7 => ?_)
        refine s_aload rfl rfl ?_
        refine s_callV [.ref a7, .ref (122 + 22 * ix p1)] [] rfl rfl (Nat.le_of_ble_eq_true rfl) (ev_176 (d := d) (by omega) hT ha7 ha4) (fun _ w8 hT8 => ?_)
        refine s_aload rfl rfl ?_
        refine s_getF rfl hT8 ho0 rfl ?_
        refine s_aload rfl rfl ?_
        refine s_callV [.ref (o0 + 35), .ref (132 + 22 * ix p1)] [] rfl rfl (Nat.le_of_ble_eq_true rfl) (ev_72 (d := d) (by omega) hT8 (of_9_6 ho0) ha5) (fun _ w10 hT10 => ?_)
        refine s_aload rfl rfl ?_
        refine s_getD rfl hT10 ho0 (by decide) rfl (fun a12 ha12 => ?_)
        refine s_aload rfl rfl ?_
        refine s_callV [.ref a12, .ref (140 + 22 * ix p1)] [] rfl rfl (Nat.le_of_ble_eq_true rfl) (ev_177 (d := d) (by omega) hT10 ha12 ha6) (fun _ w13 hT13 => ?_)
        refine s_aload rfl rfl ?_
        refine s_const rfl ?_
        refine s_putI rfl hT13 ho0 rfl (fun w15 hT15 => ?_)
        refine s_const rfl ?_
        exact s_retZ (z := true) rfl rfl hT15 (fun _ _ h => h)
    · refine s_ic1 rfl (zc_ge1 h2) ?_
      refine s_const rfl ?_
      exact s_retZ (z := false) rfl rfl hT (fun _ _ h => h)
  · refine s_if1 rfl (zc_lt1 h1) ?_
    refine s_const rfl ?_
    exact s_retZ (z := false) rfl rfl hT (fun _ _ h => h)
