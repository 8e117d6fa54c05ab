/-! printed by program (wip/whole/gen/sh.py): the methods as programs over worlds, and that the small machine does what they say -/
/-- RugReaderModel.sign(III)I -/
def sh_248 (o0 : Nat) (p1 : Int32) (p2 : Int32) (p3 : Int32) (w : Wd) : Option (Int32 × Wd) := stI w o0 0 0 (fun w1 => cl (sh_249 o0 p1 p2 p3 w1) (fun r3 w2 => if r3 < 0 then (some ((-1), w2)) else (some (r3 / 1000, w2))))
set_option maxRecDepth 20000 in
set_option maxHeartbeats 4000000 in
theorem ev_248 {d : Nat} (hd : 5 ≤ d) {o0 : Nat} {p1 : Int32} {p2 : Int32} {p3 : Int32} {w : Wd} (hT : TY w) (ho0 : ist o0 10) : sp (sh_248 o0 p1 p2 p3 w) (fun r w' => TY w' ∧ Ev d 248 [.ref o0, .int p1, .int p2, .int p3] w (cvI r) w') := by
  obtain ⟨d, rfl⟩ : ∃ d', d = d' + 1 := ⟨d - 1, by omega⟩
  refine ev_of (M := M248) zin_248 rfl (by decide) rfl (Nat.le_of_ble_eq_true rfl) (Or.inr ⟨o0, _, rfl, ho0⟩) hT ?_
  show sp _ (PP (Ev d) M248 (KR cvI) (0, [(0, .ref o0), (1, .int p1), (2, .int p2), (3, .int p3)], [], w))
  unfold sh_248
  refine s_aload rfl rfl ?_
  refine s_const rfl ?_
  refine s_putI rfl hT ho0 rfl (fun w1 hT1 => ?_)
  refine s_aload rfl rfl ?_
  refine s_iload rfl rfl ?_
  refine s_iload rfl rfl ?_
  refine s_iload rfl rfl ?_
  refine s_callI [.ref o0, .int p1, .int p2, .int p3] [] rfl rfl (Nat.le_of_ble_eq_true rfl) (ev_249 (d := d) (by omega) hT1 ho0) (fun r3 w2 hT2 => ?_)
  refine s_istoreF [(4, .int r3)] rfl (subl_c rfl (subl_n)) ?_
  refine s_iload rfl rfl ?_
  refine sp_ite (fun h4 => ?_) (fun h4 => ?_)
  · refine s_if0 rfl (zc_ge0 h4) ?_
    refine s_const rfl ?_
    refine s_goto rfl ?_
    exact s_retI rfl rfl hT2 (fun _ _ h => h)
  · refine s_if1 rfl (zc_ge1 h4) ?_
    refine s_iload rfl rfl ?_
    refine s_const rfl ?_
    refine s_div rfl (by decide) ?_
    exact s_retI rfl rfl hT2 (fun _ _ h => h)
/-- RugReaderModel.steps(III)I -/
def sh_252 (o0 : Nat) (p1 : Int32) (p2 : Int32) (p3 : Int32) (w : Wd) : Option (Int32 × Wd) := stI w o0 0 0 (fun w1 => cl (sh_249 o0 p1 p2 p3 w1) (fun r3 w2 => if r3 < 0 then (some ((-1), w2)) else (some (zrem r3 1000, w2))))
set_option maxRecDepth 20000 in
set_option maxHeartbeats 4000000 in
theorem ev_252 {d : Nat} (hd : 5 ≤ d) {o0 : Nat} {p1 : Int32} {p2 : Int32} {p3 : Int32} {w : Wd} (hT : TY w) (ho0 : ist o0 10) : sp (sh_252 o0 p1 p2 p3 w) (fun r w' => TY w' ∧ Ev d 252 [.ref o0, .int p1, .int p2, .int p3] w (cvI r) w') := by
  obtain ⟨d, rfl⟩ : ∃ d', d = d' + 1 := ⟨d - 1, by omega⟩
  refine ev_of (M := M252) zin_252 rfl (by decide) rfl (Nat.le_of_ble_eq_true rfl) (Or.inr ⟨o0, _, rfl, ho0⟩) hT ?_
  show sp _ (PP (Ev d) M252 (KR cvI) (0, [(0, .ref o0), (1, .int p1), (2, .int p2), (3, .int p3)], [], w))
  unfold sh_252
  refine s_aload rfl rfl ?_
  refine s_const rfl ?_
  refine s_putI rfl hT ho0 rfl (fun w1 hT1 => ?_)
  refine s_aload rfl rfl ?_
  refine s_iload rfl rfl ?_
  refine s_iload rfl rfl ?_
  refine s_iload rfl rfl ?_
  refine s_callI [.ref o0, .int p1, .int p2, .int p3] [] rfl rfl (Nat.le_of_ble_eq_true rfl) (ev_249 (d := d) (by omega) hT1 ho0) (fun r3 w2 hT2 => ?_)
  refine s_istoreF [(4, .int r3)] rfl (subl_c rfl (subl_n)) ?_
  refine s_iload rfl rfl ?_
  refine sp_ite (fun h4 => ?_) (fun h4 => ?_)
  · refine s_if0 rfl (zc_ge0 h4) ?_
    refine s_const rfl ?_
    refine s_goto rfl ?_
    exact s_retI rfl rfl hT2 (fun _ _ h => h)
  · refine s_if1 rfl (zc_ge1 h4) ?_
    refine s_iload rfl rfl ?_
    refine s_const rfl ?_
    refine s_rem rfl (by decide) ?_
    exact s_retI rfl rfl hT2 (fun _ _ h => h)
/-- RugReaderModel.walkRead()Z -/
def sh_254 (o0 : Nat) (w : Wd) : Option (Bool × Wd) := cl (sh_201 o0 w) (fun r2 w1 => if r2 = true then (gd (ib 2 10265) (cl (sh_202 o0 0 (wI w1 (o0 + 2) (ix 2)) w1) (fun r5 w4 => stI w4 o0 32 r5 (fun w6 => if wI w6 o0 32 < 0 then (cl (sh_197 o0 3 w6) (fun r9 w8 => some (r9, w8))) else (cl (sh_191 o0 w6) (fun _ w10 => gd (ib 0 10265) (cl (sh_198 o0 0 ((wI w10 (o0 + 2) (ix 0)) - 1) w10) (fun r13 w12 => if r13 = true then (stI w12 o0 33 (wI w12 o0 18) (fun w15 => gd (ib 1 10265) (cl (sh_198 o0 0 ((wI w15 (o0 + 2) (ix 1)) - 1) w15) (fun r17 w16 => if r17 = true then (stI w16 o0 33 ((wI w16 o0 33) + (12 * (wI w16 o0 18))) (fun w19 => cl (sh_208 o0 59 w19) (fun r21 w20 => if r21 = true then (itM (fun (s49 : Unit) (w24 : Wd) => if wI w24 o0 11 = 0 then (some (.inr (true), w24)) else (cl (sh_206 o0 w24) (fun r27 w26 => if r27 < 0 then (cl (sh_197 o0 1 w26) (fun r30 w29 => some (.inr (r30), w29))) else (if wI w26 o0 34 = 30 then (cl (sh_197 o0 4 w26) (fun r33 w32 => some (.inr (r33), w32))) else (cl (sh_191 o0 w26) (fun _ w34 => gd (ib (3 * (wI w34 o0 34)) 135) (stI w34 (o0 + 4) (ix (3 * (wI w34 o0 34))) r27 (fun w36 => cl (sh_198 o0 1 11 w36) (fun r38 w37 => if r38 = true then (gd (ib ((3 * (wI w37 o0 34)) + 1) 135) (stI w37 (o0 + 4) (ix ((3 * (wI w37 o0 34)) + 1)) (wI w37 o0 18) (fun w40 => cl (sh_198 o0 1 99 w40) (fun r42 w41 => if r42 = true then (gd (ib ((3 * (wI w41 o0 34)) + 2) 135) (stI w41 (o0 + 4) (ix ((3 * (wI w41 o0 34)) + 2)) (wI w41 o0 18) (fun w44 => cl (sh_208 o0 59 w44) (fun r46 w45 => if r46 = true then (stI w45 o0 34 ((wI w45 o0 34) + 1) (fun w48 => some (.inl (), w48))) else (some (.inr (false), w45)))))) else (some (.inr (false), w41)))))) else (some (.inr (false), w37))))))))))) FU () w20) else (some (false, w20))))) else (some (false, w16)))))) else (some (false, w12)))))))))) else (cl (sh_197 o0 1 w1) (fun r51 w50 => some (r51, w50))))
set_option maxRecDepth 20000 in
set_option maxHeartbeats 4000000 in
theorem ev_254 {d : Nat} (hd : 4 ≤ d) {o0 : Nat} {w : Wd} (hT : TY w) (ho0 : ist o0 10) : sp (sh_254 o0 w) (fun r w' => TY w' ∧ Ev d 254 [.ref o0] w (cvZ r) w') := by
  obtain ⟨d, rfl⟩ : ∃ d', d = d' + 1 := ⟨d - 1, by omega⟩
  refine ev_of (M := M254) zin_254 rfl (by decide) rfl (Nat.le_of_ble_eq_true rfl) (Or.inr ⟨o0, _, rfl, ho0⟩) hT ?_
  show sp _ (PP (Ev d) M254 (KR cvZ) (0, [(0, .ref o0)], [], w))
  unfold sh_254
  refine s_aload rfl rfl ?_
  refine s_callZ [.ref o0] [] rfl rfl (Nat.le_of_ble_eq_true rfl) (ev_201 (d := d) (by omega) hT ho0) (fun r2 w1 hT1 => ?_)
  refine sp_ite (fun h3 => ?_) (fun h3 => ?_)
  · refine s_if1 rfl (zb_ne1 h3) ?_
    refine s_aload rfl rfl ?_
    refine s_aload rfl rfl ?_
    refine s_const rfl ?_
    refine s_aload rfl rfl ?_
    refine s_getF rfl hT1 ho0 rfl ?_
    refine s_const rfl ?_
    refine s_iald rfl hT1 (of_10_6 ho0) ?_
    refine s_callI [.ref o0, .int 0, .int (wI w1 (o0 + 2) (ix 2))] [.ref o0] rfl rfl (Nat.le_of_ble_eq_true rfl) (ev_202 (d := d) (by omega) hT1 ho0) (fun r5 w4 hT4 => ?_)
    refine s_putI rfl hT4 ho0 rfl (fun w6 hT6 => ?_)
    refine s_aload rfl rfl ?_
    refine s_getI rfl hT6 ho0 ?_
    refine sp_ite (fun h7 => ?_) (fun h7 => ?_)
    · refine s_if0 rfl (zc_ge0 h7) ?_
      refine s_aload rfl rfl ?_
      refine s_const rfl ?_
      refine s_callZ [.ref o0, .int 3] [] rfl rfl (Nat.le_of_ble_eq_true rfl) (ev_197 (d := d) (by omega) hT6 ho0) (fun r9 w8 hT8 => ?_)
      exact s_retZ (z := r9) rfl rfl hT8 (fun _ _ h => h)
    · refine s_if1 rfl (zc_ge1 h7) ?_
      refine s_aload rfl rfl ?_
      refine s_callV [.ref o0] [] rfl rfl (Nat.le_of_ble_eq_true rfl) (ev_191 (d := d) (by omega) hT6 ho0) (fun _ w10 hT10 => ?_)
      refine s_aload rfl rfl ?_
      refine s_const rfl ?_
      refine s_aload rfl rfl ?_
      refine s_getF rfl hT10 ho0 rfl ?_
      refine s_const rfl ?_
      refine s_iald rfl hT10 (of_10_6 ho0) ?_
      refine s_const rfl ?_
      refine s_bin rfl rfl ?_
      refine s_callZ [.ref o0, .int 0, .int ((wI w10 (o0 + 2) (ix 0)) - 1)] [] rfl rfl (Nat.le_of_ble_eq_true rfl) (ev_198 (d := d) (by omega) hT10 ho0) (fun r13 w12 hT12 => ?_)
      refine sp_ite (fun h14 => ?_) (fun h14 => ?_)
      · refine s_if1 rfl (zb_ne1 h14) ?_
        refine s_aload rfl rfl ?_
        refine s_aload rfl rfl ?_
        refine s_getI rfl hT12 ho0 ?_
        refine s_putI rfl hT12 ho0 rfl (fun w15 hT15 => ?_)
        refine s_aload rfl rfl ?_
        refine s_const rfl ?_
        refine s_aload rfl rfl ?_
        refine s_getF rfl hT15 ho0 rfl ?_
        refine s_const rfl ?_
        refine s_iald rfl hT15 (of_10_6 ho0) ?_
        refine s_const rfl ?_
        refine s_bin rfl rfl ?_
        refine s_callZ [.ref o0, .int 0, .int ((wI w15 (o0 + 2) (ix 1)) - 1)] [] rfl rfl (Nat.le_of_ble_eq_true rfl) (ev_198 (d := d) (by omega) hT15 ho0) (fun r17 w16 hT16 => ?_)
        refine sp_ite (fun h18 => ?_) (fun h18 => ?_)
        · refine s_if1 rfl (zb_ne1 h18) ?_
          refine s_aload rfl rfl ?_
          refine s_dup rfl rfl ?_
          refine s_getI rfl hT16 ho0 ?_
          refine s_const rfl ?_
          refine s_aload rfl rfl ?_
          refine s_getI rfl hT16 ho0 ?_
          refine s_bin rfl rfl ?_
          refine s_bin rfl rfl ?_
          refine s_putI rfl hT16 ho0 rfl (fun w19 hT19 => ?_)
          refine s_aload rfl rfl ?_
          refine s_const rfl ?_
          refine s_callZ [.ref o0, .int 59] [] rfl rfl (Nat.le_of_ble_eq_true rfl) (ev_208 (d := d) (by omega) hT19 ho0) (fun r21 w20 hT20 => ?_)
          refine sp_ite (fun h22 => ?_) (fun h22 => ?_)
          · refine s_if1 rfl (zb_ne1 h22) ?_
            let lvL23 : Unit → List (Nat × Value) := fun s49 => [(0, .ref o0)]
            refine s_loop lvL23 (subl_c rfl (subl_n)) hT20 (fun s49 w24 hT24 => ?_)
            show sp _ (PP _ _ _ (116, [(0, .ref o0)], [], w24))
            refine s_aload rfl rfl ?_
            refine s_getI rfl hT24 ho0 ?_
            refine sp_ite (fun h25 => ?_) (fun h25 => ?_)
            · refine s_if1 rfl (zc_eq1 h25) ?_
              refine s_const rfl ?_
              exact s_retZ (z := true) rfl rfl hT24 (fun _ _ h => h)
            · refine s_if0 rfl (zc_eq0 h25) ?_
              refine s_aload rfl rfl ?_
              refine s_callI [.ref o0] [] rfl rfl (Nat.le_of_ble_eq_true rfl) (ev_206 (d := d) (by omega) hT24 ho0) (fun r27 w26 hT26 => ?_)
              refine s_istoreF [(0, .ref o0), (1, .int r27)] rfl (subl_c rfl (subl_c rfl (subl_n))) ?_
              refine s_iload rfl rfl ?_
              refine sp_ite (fun h28 => ?_) (fun h28 => ?_)
              · refine s_if0 rfl (zc_ge0 h28) ?_
                refine s_aload rfl rfl ?_
                refine s_const rfl ?_
                refine s_callZ [.ref o0, .int 1] [] rfl rfl (Nat.le_of_ble_eq_true rfl) (ev_197 (d := d) (by omega) hT26 ho0) (fun r30 w29 hT29 => ?_)
                exact s_retZ (z := r30) rfl rfl hT29 (fun _ _ h => h)
              · refine s_if1 rfl (zc_ge1 h28) ?_
                refine s_aload rfl rfl ?_
                refine s_getI rfl hT26 ho0 ?_
                refine s_const rfl ?_
                refine sp_ite (fun h31 => ?_) (fun h31 => ?_)
                · refine s_ic0 rfl (zc_ne0 h31) ?_
                  refine s_aload rfl rfl ?_
                  refine s_const rfl ?_
                  refine s_callZ [.ref o0, .int 4] [] rfl rfl (Nat.le_of_ble_eq_true rfl) (ev_197 (d := d) (by omega) hT26 ho0) (fun r33 w32 hT32 => ?_)
                  exact s_retZ (z := r33) rfl rfl hT32 (fun _ _ h => h)
                · refine s_ic1 rfl (zc_ne1 h31) ?_
                  refine s_aload rfl rfl ?_
                  refine s_callV [.ref o0] [] rfl rfl (Nat.le_of_ble_eq_true rfl) (ev_191 (d := d) (by omega) hT26 ho0) (fun _ w34 hT34 => ?_)
                  refine s_aload rfl rfl ?_
                  refine s_getF rfl hT34 ho0 rfl ?_
                  refine s_const rfl ?_
                  refine s_aload rfl rfl ?_
                  refine s_getI rfl hT34 ho0 ?_
                  refine s_bin rfl rfl ?_
                  refine s_iload rfl rfl ?_
                  refine s_iast rfl hT34 (of_10_8 ho0) (fun w36 hT36 => ?_)
                  refine s_aload rfl rfl ?_
                  refine s_const rfl ?_
                  refine s_const rfl ?_
                  refine s_callZ [.ref o0, .int 1, .int 11] [] rfl rfl (Nat.le_of_ble_eq_true rfl) (ev_198 (d := d) (by omega) hT36 ho0) (fun r38 w37 hT37 => ?_)
                  refine sp_ite (fun h39 => ?_) (fun h39 => ?_)
                  · refine s_if1 rfl (zb_ne1 h39) ?_
                    refine s_aload rfl rfl ?_
                    refine s_getF rfl hT37 ho0 rfl ?_
                    refine s_const rfl ?_
                    refine s_aload rfl rfl ?_
                    refine s_getI rfl hT37 ho0 ?_
                    refine s_bin rfl rfl ?_
                    refine s_const rfl ?_
                    refine s_bin rfl rfl ?_
                    refine s_aload rfl rfl ?_
                    refine s_getI rfl hT37 ho0 ?_
                    refine s_iast rfl hT37 (of_10_8 ho0) (fun w40 hT40 => ?_)
                    refine s_aload rfl rfl ?_
                    refine s_const rfl ?_
                    refine s_const rfl ?_
                    refine s_callZ [.ref o0, .int 1, .int 99] [] rfl rfl (Nat.le_of_ble_eq_true rfl) (ev_198 (d := d) (by omega) hT40 ho0) (fun r42 w41 hT41 => ?_)
                    refine sp_ite (fun h43 => ?_) (fun h43 => ?_)
                    · refine s_if1 rfl (zb_ne1 h43) ?_
                      refine s_aload rfl rfl ?_
                      refine s_getF rfl hT41 ho0 rfl ?_
                      refine s_const rfl ?_
                      refine s_aload rfl rfl ?_
                      refine s_getI rfl hT41 ho0 ?_
                      refine s_bin rfl rfl ?_
                      refine s_const rfl ?_
                      refine s_bin rfl rfl ?_
                      refine s_aload rfl rfl ?_
                      refine s_getI rfl hT41 ho0 ?_
                      refine s_iast rfl hT41 (of_10_8 ho0) (fun w44 hT44 => ?_)
                      refine s_aload rfl rfl ?_
                      refine s_const rfl ?_
                      refine s_callZ [.ref o0, .int 59] [] rfl rfl (Nat.le_of_ble_eq_true rfl) (ev_208 (d := d) (by omega) hT44 ho0) (fun r46 w45 hT45 => ?_)
                      refine sp_ite (fun h47 => ?_) (fun h47 => ?_)
                      · refine s_if1 rfl (zb_ne1 h47) ?_
                        refine s_aload rfl rfl ?_
                        refine s_dup rfl rfl ?_
                        refine s_getI rfl hT45 ho0 ?_
                        refine s_const rfl ?_
                        refine s_bin rfl rfl ?_
                        refine s_putI rfl hT45 ho0 rfl (fun w48 hT48 => ?_)
                        refine s_goto rfl ?_
                        exact s_back (lvL := lvL23) (s' := ()) (subl_c rfl (subl_n)) hT48 (fun _ _ h => h)
                      · refine s_if0 rfl (zb_ne0 h47) ?_
                        refine s_const rfl ?_
                        exact s_retZ (z := false) rfl rfl hT45 (fun _ _ h => h)
                    · refine s_if0 rfl (zb_ne0 h43) ?_
                      refine s_const rfl ?_
                      exact s_retZ (z := false) rfl rfl hT41 (fun _ _ h => h)
                  · refine s_if0 rfl (zb_ne0 h39) ?_
                    refine s_const rfl ?_
                    exact s_retZ (z := false) rfl rfl hT37 (fun _ _ h => h)
          · refine s_if0 rfl (zb_ne0 h22) ?_
            refine s_const rfl ?_
            exact s_retZ (z := false) rfl rfl hT20 (fun _ _ h => h)
        · refine s_if0 rfl (zb_ne0 h18) ?_
          refine s_const rfl ?_
          exact s_retZ (z := false) rfl rfl hT16 (fun _ _ h => h)
      · refine s_if0 rfl (zb_ne0 h14) ?_
        refine s_const rfl ?_
        exact s_retZ (z := false) rfl rfl hT12 (fun _ _ h => h)
  · refine s_if0 rfl (zb_ne0 h3) ?_
    refine s_aload rfl rfl ?_
    refine s_const rfl ?_
    refine s_callZ [.ref o0, .int 1] [] rfl rfl (Nat.le_of_ble_eq_true rfl) (ev_197 (d := d) (by omega) hT1 ho0) (fun r51 w50 hT50 => ?_)
    exact s_retZ (z := r51) rfl rfl hT50 (fun _ _ h => h)
/-- RugReaderModel.walk()I -/
def sh_253 (o0 : Nat) (w : Wd) : Option (Int32 × Wd) := stI w o0 0 0 (fun w1 => cl (sh_190 o0 300 w1) (fun _ w2 => stI w2 o0 15 0 (fun w4 => stI w4 o0 34 0 (fun w5 => cl (sh_191 o0 w5) (fun _ w6 => cl (sh_254 o0 w6) (fun r9 w8 => if r9 = true then (stI w8 o0 35 1 (fun w11 => itM (fun (v1_12 : Int32) (w14 : Wd) => if v1_12 < 3 then (gd (ib v1_12 4) (stI w14 (o0 + 13) (ix v1_12) 0 (fun w16 => lt (v1_12 + 1 : Int32) (fun v1_17 => some (.inl v1_17, w16))))) else (gd (ib 3 4) (stI w14 (o0 + 13) (ix 3) (-1) (fun w18 => gd (ib (25 + (wI w18 o0 33)) 10265) (if wI w18 (o0 + 2) (ix (25 + (wI w18 o0 33))) = 1 then (gd (ib 0 4) (stI w18 (o0 + 13) (ix 0) 1 (fun w20 => some (.inr (0), w20)))) else (lt (wI w18 o0 33 : Int32) (fun v1_21 => gd (ib 3 4) (stI w18 (o0 + 13) (ix 3) v1_21 (fun w22 => itM (fun (s67 : Int32 × Int32) (w26 : Wd) => match s67 with | (v1_23, v2_24) => if v2_24 < wI w26 o0 34 then (gd (ib (3 * v2_24) 135) (lt (wI w26 (o0 + 4) (ix (3 * v2_24)) : Int32) (fun v3_28 => itM (fun (s66 : Int32 × Int32 × Int32) (w33 : Wd) => match s66 with | (v1_29, v4_30, v5_31) => gd (ib ((3 * v2_24) + 1) 135) (jn (fun (s65 : Unit) (w35 : Wd) => jn (fun (v4_37 : Int32) (w38 : Wd) => jn (fun (v4_40 : Int32) (w41 : Wd) => if 0 < v4_40 then (gd (ib 0 4) (stI w41 (o0 + 13) (ix 0) v4_40 (fun w43 => some (.inr (.inr (.inr (v2_24 + 1))), w43)))) else (gd (ib 1 4) (gd (ib ((3 * v2_24) + 1) 135) (gd (ib 1 4) (stI w41 (o0 + 13) (ix 1) ((wI w41 (o0 + 13) (ix 1)) + (wI w41 (o0 + 4) (ix ((3 * v2_24) + 1)))) (fun w44 => gd (ib 2 4) (gd (ib ((3 * v2_24) + 2) 135) (gd (ib 2 4) (stI w44 (o0 + 13) (ix 2) ((wI w44 (o0 + 13) (ix 2)) + (wI w44 (o0 + 4) (ix ((3 * v2_24) + 2)))) (fun w45 => gd (ib 3 4) (stI w45 (o0 + 13) (ix 3) v1_29 (fun w46 => lt (v2_24 + 1 : Int32) (fun v2_47 => some (.inr (.inl (v1_29, v2_47)), w46)))))))))))))) (fun j39 => if v4_37 = 0 then (if 0 < v2_24 then (gd (ib ((3 * v2_24) + 2) 135) (if wI w38 (o0 + 4) (ix ((3 * v2_24) + 2)) = 1 then (gd (ib ((3 * v2_24) - 3) 135) (if v3_28 = zrem ((wI w38 (o0 + 4) (ix ((3 * v2_24) - 3))) + 2) 4 then (j39 3 w38) else (j39 v4_37 w38))) else (j39 v4_37 w38))) else (j39 v4_37 w38)) else (j39 v4_37 w38))) (fun j36 => if v4_30 = 0 then (gd (ib ((3 * v2_24) + 1) 135) (gd (ib (19 + (wI w35 o0 32)) 10265) (gd (ib ((3 * v2_24) + 2) 135) (if (wI w35 (o0 + 2) (ix (19 + (wI w35 o0 32)))) * (wI w35 (o0 + 4) (ix ((3 * v2_24) + 2))) < wI w35 (o0 + 4) (ix ((3 * v2_24) + 1)) then (j36 2 w35) else (j36 v4_30 w35))))) else (j36 v4_30 w35))) (fun j34 => if v5_31 < wI w33 (o0 + 4) (ix ((3 * v2_24) + 1)) then (if v4_30 = 0 then (cl (sh_251 o0 v1_29 v3_28 w33) (fun r59 w58 => if 0 ≤ r59 then (gd (ib (25 + r59) 10265) (if wI w58 (o0 + 2) (ix (25 + r59)) = 1 then (lt (v5_31 + 1 : Int32) (fun v5_62 => some (.inl (r59, 1, v5_62), w58))) else (lt (v5_31 + 1 : Int32) (fun v5_63 => some (.inl (r59, 0, v5_63), w58))))) else (lt (v5_31 + 1 : Int32) (fun v5_64 => some (.inl (r59, 1, v5_64), w58))))) else (j34 () w33)) else (j34 () w33)))) FU (v1_23, 0, 0) w26))) else (some (.inr (.inr ((-1))), w26))) FU (v1_21, 0) w22))))))))) FU 0 w11)) else (some ((-2) - (wI w8 o0 16), w8))))))))
set_option maxRecDepth 20000 in
set_option maxHeartbeats 4000000 in
theorem ev_253 {d : Nat} (hd : 5 ≤ d) {o0 : Nat} {w : Wd} (hT : TY w) (ho0 : ist o0 10) : sp (sh_253 o0 w) (fun r w' => TY w' ∧ Ev d 253 [.ref o0] w (cvI r) w') := by
  obtain ⟨d, rfl⟩ : ∃ d', d = d' + 1 := ⟨d - 1, by omega⟩
  refine ev_of (M := M253) zin_253 rfl (by decide) rfl (Nat.le_of_ble_eq_true rfl) (Or.inr ⟨o0, _, rfl, ho0⟩) hT ?_
  show sp _ (PP (Ev d) M253 (KR cvI) (0, [(0, .ref o0)], [], w))
  unfold sh_253
  refine s_aload rfl rfl ?_
  refine s_const rfl ?_
  refine s_putI rfl hT ho0 rfl (fun w1 hT1 => ?_)
  refine s_aload rfl rfl ?_
  refine s_const rfl ?_
  refine s_callV [.ref o0, .int 300] [] rfl rfl (Nat.le_of_ble_eq_true rfl) (ev_190 (d := d) (by omega) hT1 ho0) (fun _ w2 hT2 => ?_)
  refine s_aload rfl rfl ?_
  refine s_const rfl ?_
  refine s_putI rfl hT2 ho0 rfl (fun w4 hT4 => ?_)
  refine s_aload rfl rfl ?_
  refine s_const rfl ?_
  refine s_putI rfl hT4 ho0 rfl (fun w5 hT5 => ?_)
  refine s_aload rfl rfl ?_
  refine s_callV [.ref o0] [] rfl rfl (Nat.le_of_ble_eq_true rfl) (ev_191 (d := d) (by omega) hT5 ho0) (fun _ w6 hT6 => ?_)
  refine s_aload rfl rfl ?_
  refine s_callZ [.ref o0] [] rfl rfl (Nat.le_of_ble_eq_true rfl) (ev_254 (d := d) (by omega) hT6 ho0) (fun r9 w8 hT8 => ?_)
  refine sp_ite (fun h10 => ?_) (fun h10 => ?_)
  · refine s_if1 rfl (zb_ne1 h10) ?_
    refine s_aload rfl rfl ?_
    refine s_const rfl ?_
    refine s_putZ rfl hT8 ho0 rfl (Or.inr rfl) (fun w11 hT11 => ?_)
    refine s_const rfl ?_
    refine s_istoreF [(0, .ref o0), (1, .int 0)] rfl (subl_c rfl (subl_c rfl (subl_n))) ?_
    let lvL13 : Int32 → List (Nat × Value) := fun s68 => [(0, .ref o0), (1, .int s68)]
    refine s_loop lvL13 (subl_c rfl (subl_c rfl (subl_n))) hT11 (fun v1_12 w14 hT14 => ?_)
    show sp _ (PP _ _ _ (48, [(0, .ref o0), (1, .int v1_12)], [], w14))
    refine s_iload rfl rfl ?_
    refine s_const rfl ?_
    refine sp_ite (fun h15 => ?_) (fun h15 => ?_)
    · refine s_ic0 rfl (zc_ge0 h15) ?_
      refine s_aload rfl rfl ?_
      refine s_getF rfl hT14 ho0 rfl ?_
      refine s_iload rfl rfl ?_
      refine s_const rfl ?_
      refine s_iast rfl hT14 (of_10_31 ho0) (fun w16 hT16 => ?_)
      refine s_iincF (fun v1_17 => [(0, .ref o0), (1, .int v1_17)]) rfl rfl (fun _ => subl_c rfl (subl_c rfl (subl_n))) (fun v1_17 => ?_)
      refine s_goto rfl ?_
      exact s_back (lvL := lvL13) (s' := v1_17) (subl_c rfl (subl_c rfl (subl_n))) hT16 (fun _ _ h => h)
    · refine s_ic1 rfl (zc_ge1 h15) ?_
      refine s_aload rfl rfl ?_
      refine s_getF rfl hT14 ho0 rfl ?_
      refine s_const rfl ?_
      refine s_const rfl ?_
      refine s_iast rfl hT14 (of_10_31 ho0) (fun w18 hT18 => ?_)
      refine s_aload rfl rfl ?_
      refine s_getF rfl hT18 ho0 rfl ?_
      refine s_const rfl ?_
      refine s_aload rfl rfl ?_
      refine s_getI rfl hT18 ho0 ?_
      refine s_bin rfl rfl ?_
      refine s_iald rfl hT18 (of_10_6 ho0) ?_
      refine s_const rfl ?_
      refine sp_ite (fun h19 => ?_) (fun h19 => ?_)
      · refine s_ic0 rfl (zc_ne0 h19) ?_
        refine s_aload rfl rfl ?_
        refine s_getF rfl hT18 ho0 rfl ?_
        refine s_const rfl ?_
        refine s_const rfl ?_
        refine s_iast rfl hT18 (of_10_31 ho0) (fun w20 hT20 => ?_)
        refine s_const rfl ?_
        exact s_retI rfl rfl hT20 (fun _ _ h => h)
      · refine s_ic1 rfl (zc_ne1 h19) ?_
        refine s_aload rfl rfl ?_
        refine s_getI rfl hT18 ho0 ?_
        refine s_nmI (fun v1_21 => ?_)
        refine s_istoreF [(0, .ref o0), (1, .int v1_21)] rfl (subl_c rfl (subl_c rfl (subl_n))) ?_
        refine s_aload rfl rfl ?_
        refine s_getF rfl hT18 ho0 rfl ?_
        refine s_const rfl ?_
        refine s_iload rfl rfl ?_
        refine s_iast rfl hT18 (of_10_31 ho0) (fun w22 hT22 => ?_)
        refine s_const rfl ?_
        refine s_istoreF [(0, .ref o0), (1, .int v1_21), (2, .int 0)] rfl (subl_c rfl (subl_c rfl (subl_c rfl (subl_n)))) ?_
        let lvL25 : Int32 × Int32 → List (Nat × Value) := fun s67 => [(0, .ref o0), (1, .int (s67.1)), (2, .int (s67.2))]
        refine s_loop lvL25 (subl_c rfl (subl_c rfl (subl_c rfl (subl_n)))) hT22 (fun s67 w26 hT26 => ?_)
        obtain ⟨v1_23, v2_24⟩ := s67
        show sp _ (PP _ _ _ (112, [(0, .ref o0), (1, .int v1_23), (2, .int v2_24)], [], w26))
        refine s_iload rfl rfl ?_
        refine s_aload rfl rfl ?_
        refine s_getI rfl hT26 ho0 ?_
        refine sp_ite (fun h27 => ?_) (fun h27 => ?_)
        · refine s_ic0 rfl (zc_ge0 h27) ?_
          refine s_aload rfl rfl ?_
          refine s_getF rfl hT26 ho0 rfl ?_
          refine s_const rfl ?_
          refine s_iload rfl rfl ?_
          refine s_bin rfl rfl ?_
          refine s_iald rfl hT26 (of_10_8 ho0) ?_
          refine s_nmI (fun v3_28 => ?_)
          refine s_istoreF [(0, .ref o0), (1, .int v1_23), (2, .int v2_24), (3, .int v3_28)] rfl (subl_c rfl (subl_c rfl (subl_c rfl (subl_c rfl (subl_n))))) ?_
          refine s_const rfl ?_
          refine s_istoreF [(0, .ref o0), (1, .int v1_23), (2, .int v2_24), (3, .int v3_28), (4, .int 0)] rfl (subl_c rfl (subl_c rfl (subl_c rfl (subl_c rfl (subl_c rfl (subl_n)))))) ?_
          refine s_const rfl ?_
          refine s_istoreF [(0, .ref o0), (1, .int v1_23), (2, .int v2_24), (3, .int v3_28), (4, .int 0), (5, .int 0)] rfl (subl_c rfl (subl_c rfl (subl_c rfl (subl_c rfl (subl_c rfl (subl_c rfl (subl_n))))))) ?_
          let lvL32 : Int32 × Int32 × Int32 → List (Nat × Value) := fun s66 => [(0, .ref o0), (1, .int (s66.1)), (2, .int v2_24), (3, .int v3_28), (4, .int (s66.2.1)), (5, .int (s66.2.2))]
          refine s_loop lvL32 (subl_c rfl (subl_c rfl (subl_c rfl (subl_c rfl (subl_c rfl (subl_c rfl (subl_n))))))) hT26 (fun s66 w33 hT33 => ?_)
          obtain ⟨v1_29, v4_30, v5_31⟩ := s66
          show sp _ (PP _ _ _ (135, [(0, .ref o0), (1, .int v1_29), (2, .int v2_24), (3, .int v3_28), (4, .int v4_30), (5, .int v5_31)], [], w33))
          refine s_iload rfl rfl ?_
          refine s_aload rfl rfl ?_
          refine s_getF rfl hT33 ho0 rfl ?_
          refine s_const rfl ?_
          refine s_iload rfl rfl ?_
          refine s_bin rfl rfl ?_
          refine s_const rfl ?_
          refine s_bin rfl rfl ?_
          refine s_iald rfl hT33 (of_10_8 ho0) ?_
          refine s_jnP (fun (s65 : Unit) w => (192, [(0, .ref o0), (1, .int v1_29), (2, .int v2_24), (3, .int v3_28), (4, .int v4_30)], [], w)) (fun s65 w35 hT35 => ?_) (fun j34 hj34 => ?_)
          · show sp _ (PP _ _ _ (192, [(0, .ref o0), (1, .int v1_29), (2, .int v2_24), (3, .int v3_28), (4, .int v4_30)], [], w35))
            refine s_iload rfl rfl ?_
            refine s_jnP (fun (s55 : Int32) w => (236, [(0, .ref o0), (1, .int v1_29), (2, .int v2_24), (3, .int v3_28), (4, .int s55)], [], w)) (fun v4_37 w38 hT38 => ?_) (fun j36 hj36 => ?_)
            · show sp _ (PP _ _ _ (236, [(0, .ref o0), (1, .int v1_29), (2, .int v2_24), (3, .int v3_28), (4, .int v4_37)], [], w38))
              refine s_iload rfl rfl ?_
              refine s_jnP (fun (s52 : Int32) w => (280, [(0, .ref o0), (1, .int v1_29), (2, .int v2_24), (4, .int s52)], [], w)) (fun v4_40 w41 hT41 => ?_) (fun j39 hj39 => ?_)
              · show sp _ (PP _ _ _ (280, [(0, .ref o0), (1, .int v1_29), (2, .int v2_24), (4, .int v4_40)], [], w41))
                refine s_iload rfl rfl ?_
                refine sp_ite (fun h42 => ?_) (fun h42 => ?_)
                · refine s_if0 rfl (zc_le0 h42) ?_
                  refine s_aload rfl rfl ?_
                  refine s_getF rfl hT41 ho0 rfl ?_
                  refine s_const rfl ?_
                  refine s_iload rfl rfl ?_
                  refine s_iast rfl hT41 (of_10_31 ho0) (fun w43 hT43 => ?_)
                  refine s_iload rfl rfl ?_
                  refine s_const rfl ?_
                  refine s_bin rfl rfl ?_
                  exact s_retI rfl rfl hT43 (fun _ _ h => h)
                · refine s_if1 rfl (zc_le1 h42) ?_
                  refine s_aload rfl rfl ?_
                  refine s_getF rfl hT41 ho0 rfl ?_
                  refine s_const rfl ?_
                  refine s_dup2 rfl ⟨rfl, rfl⟩ ?_
                  refine s_iald rfl hT41 (of_10_31 ho0) ?_
                  refine s_aload rfl rfl ?_
                  refine s_getF rfl hT41 ho0 rfl ?_
                  refine s_const rfl ?_
                  refine s_iload rfl rfl ?_
                  refine s_bin rfl rfl ?_
                  refine s_const rfl ?_
                  refine s_bin rfl rfl ?_
                  refine s_iald rfl hT41 (of_10_8 ho0) ?_
                  refine s_bin rfl rfl ?_
                  refine s_iast rfl hT41 (of_10_31 ho0) (fun w44 hT44 => ?_)
                  refine s_aload rfl rfl ?_
                  refine s_getF rfl hT44 ho0 rfl ?_
                  refine s_const rfl ?_
                  refine s_dup2 rfl ⟨rfl, rfl⟩ ?_
                  refine s_iald rfl hT44 (of_10_31 ho0) ?_
                  refine s_aload rfl rfl ?_
                  refine s_getF rfl hT44 ho0 rfl ?_
                  refine s_const rfl ?_
                  refine s_iload rfl rfl ?_
                  refine s_bin rfl rfl ?_
                  refine s_const rfl ?_
                  refine s_bin rfl rfl ?_
                  refine s_iald rfl hT44 (of_10_8 ho0) ?_
                  refine s_bin rfl rfl ?_
                  refine s_iast rfl hT44 (of_10_31 ho0) (fun w45 hT45 => ?_)
                  refine s_aload rfl rfl ?_
                  refine s_getF rfl hT45 ho0 rfl ?_
                  refine s_const rfl ?_
                  refine s_iload rfl rfl ?_
                  refine s_iast rfl hT45 (of_10_31 ho0) (fun w46 hT46 => ?_)
                  refine s_iincF (fun v2_47 => [(0, .ref o0), (1, .int v1_29), (2, .int v2_47)]) rfl rfl (fun _ => subl_c rfl (subl_c rfl (subl_c rfl (subl_n)))) (fun v2_47 => ?_)
                  refine s_goto rfl ?_
                  exact s_back (lvL := lvL25) (s' := (v1_29, v2_47)) (subl_c rfl (subl_c rfl (subl_c rfl (subl_n)))) hT46 (fun _ _ h => h)
              · refine sp_ite (fun h48 => ?_) (fun h48 => ?_)
                · refine s_if0 rfl (zc_ne0 h48) ?_
                  refine s_iload rfl rfl ?_
                  refine sp_ite (fun h49 => ?_) (fun h49 => ?_)
                  · refine s_if0 rfl (zc_le0 h49) ?_
                    refine s_aload rfl rfl ?_
                    refine s_getF rfl hT38 ho0 rfl ?_
                    refine s_const rfl ?_
                    refine s_iload rfl rfl ?_
                    refine s_bin rfl rfl ?_
                    refine s_const rfl ?_
                    refine s_bin rfl rfl ?_
                    refine s_iald rfl hT38 (of_10_8 ho0) ?_
                    refine s_const rfl ?_
                    refine sp_ite (fun h50 => ?_) (fun h50 => ?_)
                    · refine s_ic0 rfl (zc_ne0 h50) ?_
                      refine s_iload rfl rfl ?_
                      refine s_aload rfl rfl ?_
                      refine s_getF rfl hT38 ho0 rfl ?_
                      refine s_const rfl ?_
                      refine s_iload rfl rfl ?_
                      refine s_bin rfl rfl ?_
                      refine s_const rfl ?_
                      refine s_bin rfl rfl ?_
                      refine s_iald rfl hT38 (of_10_8 ho0) ?_
                      refine s_const rfl ?_
                      refine s_bin rfl rfl ?_
                      refine s_const rfl ?_
                      refine s_rem rfl (by decide) ?_
                      refine sp_ite (fun h51 => ?_) (fun h51 => ?_)
                      · refine s_ic0 rfl (zc_ne0 h51) ?_
                        refine s_const rfl ?_
                        refine s_istoreF [(0, .ref o0), (1, .int v1_29), (2, .int v2_24), (4, .int 3)] rfl (subl_c rfl (subl_c rfl (subl_c rfl (subl_c rfl (subl_n))))) ?_
                        exact s_fgt _ (subl_c rfl (subl_c rfl (subl_c rfl (subl_c rfl (subl_n))))) (hj39 3 w38 hT38)
                      · refine s_ic1 rfl (zc_ne1 h51) ?_
                        exact s_fgt _ (subl_c rfl (subl_c rfl (subl_c rfl (subl_c rfl (subl_n))))) (hj39 v4_37 w38 hT38)
                    · refine s_ic1 rfl (zc_ne1 h50) ?_
                      exact s_fgt _ (subl_c rfl (subl_c rfl (subl_c rfl (subl_c rfl (subl_n))))) (hj39 v4_37 w38 hT38)
                  · refine s_if1 rfl (zc_le1 h49) ?_
                    exact s_fgt _ (subl_c rfl (subl_c rfl (subl_c rfl (subl_c rfl (subl_n))))) (hj39 v4_37 w38 hT38)
                · refine s_if1 rfl (zc_ne1 h48) ?_
                  exact s_fgt _ (subl_c rfl (subl_c rfl (subl_c rfl (subl_c rfl (subl_n))))) (hj39 v4_37 w38 hT38)
            · refine sp_ite (fun h53 => ?_) (fun h53 => ?_)
              · refine s_if0 rfl (zc_ne0 h53) ?_
                refine s_aload rfl rfl ?_
                refine s_getF rfl hT35 ho0 rfl ?_
                refine s_const rfl ?_
                refine s_iload rfl rfl ?_
                refine s_bin rfl rfl ?_
                refine s_const rfl ?_
                refine s_bin rfl rfl ?_
                refine s_iald rfl hT35 (of_10_8 ho0) ?_
                refine s_aload rfl rfl ?_
                refine s_getF rfl hT35 ho0 rfl ?_
                refine s_const rfl ?_
                refine s_aload rfl rfl ?_
                refine s_getI rfl hT35 ho0 ?_
                refine s_bin rfl rfl ?_
                refine s_iald rfl hT35 (of_10_6 ho0) ?_
                refine s_aload rfl rfl ?_
                refine s_getF rfl hT35 ho0 rfl ?_
                refine s_const rfl ?_
                refine s_iload rfl rfl ?_
                refine s_bin rfl rfl ?_
                refine s_const rfl ?_
                refine s_bin rfl rfl ?_
                refine s_iald rfl hT35 (of_10_8 ho0) ?_
                refine s_bin rfl rfl ?_
                refine sp_ite (fun h54 => ?_) (fun h54 => ?_)
                · refine s_ic0 rfl (zc_le0 h54) ?_
                  refine s_const rfl ?_
                  refine s_istoreF [(0, .ref o0), (1, .int v1_29), (2, .int v2_24), (3, .int v3_28), (4, .int 2)] rfl (subl_c rfl (subl_c rfl (subl_c rfl (subl_c rfl (subl_c rfl (subl_n)))))) ?_
                  exact s_fgt _ (subl_c rfl (subl_c rfl (subl_c rfl (subl_c rfl (subl_c rfl (subl_n)))))) (hj36 2 w35 hT35)
                · refine s_ic1 rfl (zc_le1 h54) ?_
                  exact s_fgt _ (subl_c rfl (subl_c rfl (subl_c rfl (subl_c rfl (subl_c rfl (subl_n)))))) (hj36 v4_30 w35 hT35)
              · refine s_if1 rfl (zc_ne1 h53) ?_
                exact s_fgt _ (subl_c rfl (subl_c rfl (subl_c rfl (subl_c rfl (subl_c rfl (subl_n)))))) (hj36 v4_30 w35 hT35)
          · refine sp_ite (fun h56 => ?_) (fun h56 => ?_)
            · refine s_ic0 rfl (zc_ge0 h56) ?_
              refine s_iload rfl rfl ?_
              refine sp_ite (fun h57 => ?_) (fun h57 => ?_)
              · refine s_if0 rfl (zc_ne0 h57) ?_
                refine s_aload rfl rfl ?_
                refine s_iload rfl rfl ?_
                refine s_iload rfl rfl ?_
                refine s_callI [.ref o0, .int v1_29, .int v3_28] [] rfl rfl (Nat.le_of_ble_eq_true rfl) (ev_251 (d := d) (by omega) hT33 ho0) (fun r59 w58 hT58 => ?_)
                refine s_istoreF [(0, .ref o0), (1, .int r59), (2, .int v2_24), (3, .int v3_28), (5, .int v5_31)] rfl (subl_c rfl (subl_c rfl (subl_c rfl (subl_c rfl (subl_c rfl (subl_n)))))) ?_
                refine s_iload rfl rfl ?_
                refine sp_ite (fun h60 => ?_) (fun h60 => ?_)
                · refine s_if0 rfl (zc_lt0 h60) ?_
                  refine s_aload rfl rfl ?_
                  refine s_getF rfl hT58 ho0 rfl ?_
                  refine s_const rfl ?_
                  refine s_iload rfl rfl ?_
                  refine s_bin rfl rfl ?_
                  refine s_iald rfl hT58 (of_10_6 ho0) ?_
                  refine s_const rfl ?_
                  refine sp_ite (fun h61 => ?_) (fun h61 => ?_)
                  · refine s_ic0 rfl (zc_ne0 h61) ?_
                    refine s_const rfl ?_
                    refine s_goto rfl ?_
                    refine s_istoreF [(0, .ref o0), (1, .int r59), (2, .int v2_24), (3, .int v3_28), (4, .int 1), (5, .int v5_31)] rfl (subl_c rfl (subl_c rfl (subl_c rfl (subl_c rfl (subl_c rfl (subl_c rfl (subl_n))))))) ?_
                    refine s_iincF (fun v5_62 => [(0, .ref o0), (1, .int r59), (2, .int v2_24), (3, .int v3_28), (4, .int 1), (5, .int v5_62)]) rfl rfl (fun _ => subl_c rfl (subl_c rfl (subl_c rfl (subl_c rfl (subl_c rfl (subl_c rfl (subl_n))))))) (fun v5_62 => ?_)
                    refine s_goto rfl ?_
                    exact s_back (lvL := lvL32) (s' := (r59, 1, v5_62)) (subl_c rfl (subl_c rfl (subl_c rfl (subl_c rfl (subl_c rfl (subl_c rfl (subl_n))))))) hT58 (fun _ _ h => h)
                  · refine s_ic1 rfl (zc_ne1 h61) ?_
                    refine s_const rfl ?_
                    refine s_istoreF [(0, .ref o0), (1, .int r59), (2, .int v2_24), (3, .int v3_28), (4, .int 0), (5, .int v5_31)] rfl (subl_c rfl (subl_c rfl (subl_c rfl (subl_c rfl (subl_c rfl (subl_c rfl (subl_n))))))) ?_
                    refine s_iincF (fun v5_63 => [(0, .ref o0), (1, .int r59), (2, .int v2_24), (3, .int v3_28), (4, .int 0), (5, .int v5_63)]) rfl rfl (fun _ => subl_c rfl (subl_c rfl (subl_c rfl (subl_c rfl (subl_c rfl (subl_c rfl (subl_n))))))) (fun v5_63 => ?_)
                    refine s_goto rfl ?_
                    exact s_back (lvL := lvL32) (s' := (r59, 0, v5_63)) (subl_c rfl (subl_c rfl (subl_c rfl (subl_c rfl (subl_c rfl (subl_c rfl (subl_n))))))) hT58 (fun _ _ h => h)
                · refine s_if1 rfl (zc_lt1 h60) ?_
                  refine s_const rfl ?_
                  refine s_goto rfl ?_
                  refine s_istoreF [(0, .ref o0), (1, .int r59), (2, .int v2_24), (3, .int v3_28), (4, .int 1), (5, .int v5_31)] rfl (subl_c rfl (subl_c rfl (subl_c rfl (subl_c rfl (subl_c rfl (subl_c rfl (subl_n))))))) ?_
                  refine s_iincF (fun v5_64 => [(0, .ref o0), (1, .int r59), (2, .int v2_24), (3, .int v3_28), (4, .int 1), (5, .int v5_64)]) rfl rfl (fun _ => subl_c rfl (subl_c rfl (subl_c rfl (subl_c rfl (subl_c rfl (subl_c rfl (subl_n))))))) (fun v5_64 => ?_)
                  refine s_goto rfl ?_
                  exact s_back (lvL := lvL32) (s' := (r59, 1, v5_64)) (subl_c rfl (subl_c rfl (subl_c rfl (subl_c rfl (subl_c rfl (subl_c rfl (subl_n))))))) hT58 (fun _ _ h => h)
              · refine s_if1 rfl (zc_ne1 h57) ?_
                exact s_fgt _ (subl_c rfl (subl_c rfl (subl_c rfl (subl_c rfl (subl_c rfl (subl_n)))))) (hj34 () w33 hT33)
            · refine s_ic1 rfl (zc_ge1 h56) ?_
              exact s_fgt _ (subl_c rfl (subl_c rfl (subl_c rfl (subl_c rfl (subl_c rfl (subl_n)))))) (hj34 () w33 hT33)
        · refine s_ic1 rfl (zc_ge1 h27) ?_
          refine s_const rfl ?_
          exact s_retI rfl rfl hT26 (fun _ _ h => h)
  · refine s_if0 rfl (zb_ne0 h10) ?_
    refine s_const rfl ?_
    refine s_aload rfl rfl ?_
    refine s_getI rfl hT8 ho0 ?_
    refine s_bin rfl rfl ?_
    exact s_retI rfl rfl hT8 (fun _ _ h => h)
/-- RugReaderModel.walked(I)I -/
def sh_255 (o0 : Nat) (p1 : Int32) (w : Wd) : Option (Int32 × Wd) := stI w o0 0 0 (fun w1 => if wI w1 o0 35 = 0 then (some ((-1), w1)) else (cl (sh_199 p1 0 3 w1) (fun r4 w3 => if r4 = true then (gd (ib p1 4) (some (wI w3 (o0 + 13) (ix p1), w3))) else (some ((-1), w3)))))
set_option maxRecDepth 20000 in
set_option maxHeartbeats 4000000 in
theorem ev_255 {d : Nat} (hd : 2 ≤ d) {o0 : Nat} {p1 : Int32} {w : Wd} (hT : TY w) (ho0 : ist o0 10) : sp (sh_255 o0 p1 w) (fun r w' => TY w' ∧ Ev d 255 [.ref o0, .int p1] w (cvI r) w') := by
  obtain ⟨d, rfl⟩ : ∃ d', d = d' + 1 := ⟨d - 1, by omega⟩
  refine ev_of (M := M255) zin_255 rfl (by decide) rfl (Nat.le_of_ble_eq_true rfl) (Or.inr ⟨o0, _, rfl, ho0⟩) hT ?_
  show sp _ (PP (Ev d) M255 (KR cvI) (0, [(0, .ref o0), (1, .int p1)], [], w))
  unfold sh_255
  refine s_aload rfl rfl ?_
  refine s_const rfl ?_
  refine s_putI rfl hT ho0 rfl (fun w1 hT1 => ?_)
  refine s_aload rfl rfl ?_
  refine s_getI rfl hT1 ho0 ?_
  refine sp_ite (fun h2 => ?_) (fun h2 => ?_)
  · refine s_if1 rfl (zc_eq1 h2) ?_
    refine s_const rfl ?_
    exact s_retI rfl rfl hT1 (fun _ _ h => h)
  · refine s_if0 rfl (zc_eq0 h2) ?_
    refine s_iload rfl rfl ?_
    refine s_const rfl ?_
    refine s_const rfl ?_
    refine s_callZ [.int p1, .int 0, .int 3] [] rfl rfl (Nat.le_of_ble_eq_true rfl) (ev_199 (d := d) (by omega) hT1 ) (fun r4 w3 hT3 => ?_)
    refine sp_ite (fun h5 => ?_) (fun h5 => ?_)
    · refine s_if0 rfl (zb_eq0 h5) ?_
      refine s_aload rfl rfl ?_
      refine s_getF rfl hT3 ho0 rfl ?_
      refine s_iload rfl rfl ?_
      refine s_iald rfl hT3 (of_10_31 ho0) ?_
      refine s_goto rfl ?_
      exact s_retI rfl rfl hT3 (fun _ _ h => h)
    · refine s_if1 rfl (zb_eq1 h5) ?_
      refine s_const rfl ?_
      exact s_retI rfl rfl hT3 (fun _ _ h => h)
/-- RugReaderModel.comes(II)V -/
def sh_259 (o0 : Nat) (p1 : Int32) (p2 : Int32) (w : Wd) : Option (Unit × Wd) := gd (ib p1 288) (if wI w (o0 + 16) (ix p1) = (-1) then (gd (ib p1 288) (stI w (o0 + 16) (ix p1) p2 (fun w2 => gd (ib (wI w2 o0 43) 288) (stI w2 (o0 + 17) (ix (wI w2 o0 43)) p1 (fun w3 => stI w3 o0 43 ((wI w3 o0 43) + 1) (fun w4 => some ((), w4))))))) else (some ((), w)))
set_option maxRecDepth 20000 in
set_option maxHeartbeats 4000000 in
theorem ev_259 {d : Nat} (hd : 1 ≤ d) {o0 : Nat} {p1 : Int32} {p2 : Int32} {w : Wd} (hT : TY w) (ho0 : ist o0 10) : sp (sh_259 o0 p1 p2 w) (fun r w' => TY w' ∧ Ev d 259 [.ref o0, .int p1, .int p2] w (cvV r) w') := by
  obtain ⟨d, rfl⟩ : ∃ d', d = d' + 1 := ⟨d - 1, by omega⟩
  refine ev_of (M := M259) zin_259 rfl (by decide) rfl (Nat.le_of_ble_eq_true rfl) (Or.inr ⟨o0, _, rfl, ho0⟩) hT ?_
  show sp _ (PP (Ev d) M259 (KR cvV) (0, [(0, .ref o0), (1, .int p1), (2, .int p2)], [], w))
  unfold sh_259
  refine s_aload rfl rfl ?_
  refine s_getF rfl hT ho0 rfl ?_
  refine s_iload rfl rfl ?_
  refine s_iald rfl hT (of_10_38 ho0) ?_
  refine s_const rfl ?_
  refine sp_ite (fun h1 => ?_) (fun h1 => ?_)
  · refine s_ic1 rfl (zc_eq1 h1) ?_
    refine s_aload rfl rfl ?_
    refine s_getF rfl hT ho0 rfl ?_
    refine s_iload rfl rfl ?_
    refine s_iload rfl rfl ?_
    refine s_iast rfl hT (of_10_38 ho0) (fun w2 hT2 => ?_)
    refine s_aload rfl rfl ?_
    refine s_getF rfl hT2 ho0 rfl ?_
    refine s_aload rfl rfl ?_
    refine s_getI rfl hT2 ho0 ?_
    refine s_iload rfl rfl ?_
    refine s_iast rfl hT2 (of_10_39 ho0) (fun w3 hT3 => ?_)
    refine s_aload rfl rfl ?_
    refine s_dup rfl rfl ?_
    refine s_getI rfl hT3 ho0 ?_
    refine s_const rfl ?_
    refine s_bin rfl rfl ?_
    refine s_putI rfl hT3 ho0 rfl (fun w4 hT4 => ?_)
    exact s_retV rfl rfl hT4 (fun _ _ h => h)
  · refine s_ic0 rfl (zc_eq0 h1) ?_
    exact s_retV rfl rfl hT (fun _ _ h => h)
/-- RugReaderModel.turned(II)Z -/
def sh_260 (o0 : Nat) (p1 : Int32) (p2 : Int32) (w : Wd) : Option (Bool × Wd) := lt (2 * p2 : Int32) (fun v3_1 => itM (fun (v3_2 : Int32) (w4 : Wd) => if v3_2 = (2 * p1) + 1 then (some (.inr (true), w4)) else (gd (ib v3_2 288) (lt (wI w4 (o0 + 16) (ix v3_2) : Int32) (fun v4_6 => lt (v3_2 / 2 : Int32) (fun v5_7 => lt (v4_6 / 2 : Int32) (fun v6_8 => if v5_7 = v6_8 then (gd (ib v5_7 144) (stI w4 (o0 + 15) (ix v5_7) (zrem v3_2 2) (fun w10 => some (.inl v4_6, w10)))) else (if zrem v3_2 2 = 0 then (cl (sh_226 v6_8 v5_7 w4) (fun r13 w12 => gd (ib ((4 * v6_8) + r13) 576) (stI w12 (o0 + 14) (ix ((4 * v6_8) + r13)) 1 (fun w14 => some (.inl v4_6, w14))))) else (cl (sh_226 v5_7 v6_8 w4) (fun r16 w15 => gd (ib ((4 * v5_7) + r16) 576) (stI w15 (o0 + 14) (ix ((4 * v5_7) + r16)) 0 (fun w17 => some (.inl v4_6, w17)))))))))))) FU v3_1 w)
set_option maxRecDepth 20000 in
set_option maxHeartbeats 4000000 in
theorem ev_260 {d : Nat} (hd : 2 ≤ d) {o0 : Nat} {p1 : Int32} {p2 : Int32} {w : Wd} (hT : TY w) (ho0 : ist o0 10) : sp (sh_260 o0 p1 p2 w) (fun r w' => TY w' ∧ Ev d 260 [.ref o0, .int p1, .int p2] w (cvZ r) w') := by
  obtain ⟨d, rfl⟩ : ∃ d', d = d' + 1 := ⟨d - 1, by omega⟩
  refine ev_of (M := M260) zin_260 rfl (by decide) rfl (Nat.le_of_ble_eq_true rfl) (Or.inr ⟨o0, _, rfl, ho0⟩) hT ?_
  show sp _ (PP (Ev d) M260 (KR cvZ) (0, [(0, .ref o0), (1, .int p1), (2, .int p2)], [], w))
  unfold sh_260
  refine s_const rfl ?_
  refine s_iload rfl rfl ?_
  refine s_bin rfl rfl ?_
  refine s_nmI (fun v3_1 => ?_)
  refine s_istoreF [(0, .ref o0), (1, .int p1), (3, .int v3_1)] rfl (subl_c rfl (subl_c rfl (subl_c rfl (subl_n)))) ?_
  let lvL3 : Int32 → List (Nat × Value) := fun s18 => [(0, .ref o0), (1, .int p1), (3, .int s18)]
  refine s_loop lvL3 (subl_c rfl (subl_c rfl (subl_c rfl (subl_n)))) hT (fun v3_2 w4 hT4 => ?_)
  show sp _ (PP _ _ _ (4, [(0, .ref o0), (1, .int p1), (3, .int v3_2)], [], w4))
  refine s_iload rfl rfl ?_
  refine s_const rfl ?_
  refine s_iload rfl rfl ?_
  refine s_bin rfl rfl ?_
  refine s_const rfl ?_
  refine s_bin rfl rfl ?_
  refine sp_ite (fun h5 => ?_) (fun h5 => ?_)
  · refine s_ic1 rfl (zc_eq1 h5) ?_
    refine s_const rfl ?_
    exact s_retZ (z := true) rfl rfl hT4 (fun _ _ h => h)
  · refine s_ic0 rfl (zc_eq0 h5) ?_
    refine s_aload rfl rfl ?_
    refine s_getF rfl hT4 ho0 rfl ?_
    refine s_iload rfl rfl ?_
    refine s_iald rfl hT4 (of_10_38 ho0) ?_
    refine s_nmI (fun v4_6 => ?_)
    refine s_istoreF [(0, .ref o0), (1, .int p1), (3, .int v3_2), (4, .int v4_6)] rfl (subl_c rfl (subl_c rfl (subl_c rfl (subl_c rfl (subl_n))))) ?_
    refine s_iload rfl rfl ?_
    refine s_const rfl ?_
    refine s_div rfl (by decide) ?_
    refine s_nmI (fun v5_7 => ?_)
    refine s_istoreF [(0, .ref o0), (1, .int p1), (3, .int v3_2), (4, .int v4_6), (5, .int v5_7)] rfl (subl_c rfl (subl_c rfl (subl_c rfl (subl_c rfl (subl_c rfl (subl_n)))))) ?_
    refine s_iload rfl rfl ?_
    refine s_const rfl ?_
    refine s_div rfl (by decide) ?_
    refine s_nmI (fun v6_8 => ?_)
    refine s_istoreF [(0, .ref o0), (1, .int p1), (3, .int v3_2), (4, .int v4_6), (5, .int v5_7), (6, .int v6_8)] rfl (subl_c rfl (subl_c rfl (subl_c rfl (subl_c rfl (subl_c rfl (subl_c rfl (subl_n))))))) ?_
    refine s_iload rfl rfl ?_
    refine s_iload rfl rfl ?_
    refine sp_ite (fun h9 => ?_) (fun h9 => ?_)
    · refine s_ic0 rfl (zc_ne0 h9) ?_
      refine s_aload rfl rfl ?_
      refine s_getF rfl hT4 ho0 rfl ?_
      refine s_iload rfl rfl ?_
      refine s_iload rfl rfl ?_
      refine s_const rfl ?_
      refine s_rem rfl (by decide) ?_
      refine s_iast rfl hT4 (of_10_37 ho0) (fun w10 hT10 => ?_)
      refine s_goto rfl ?_
      refine s_iload rfl rfl ?_
      refine s_istoreF [(0, .ref o0), (1, .int p1), (3, .int v4_6)] rfl (subl_c rfl (subl_c rfl (subl_c rfl (subl_n)))) ?_
      refine s_goto rfl ?_
      exact s_back (lvL := lvL3) (s' := v4_6) (subl_c rfl (subl_c rfl (subl_c rfl (subl_n)))) hT10 (fun _ _ h => h)
    · refine s_ic1 rfl (zc_ne1 h9) ?_
      refine s_iload rfl rfl ?_
      refine s_const rfl ?_
      refine s_rem rfl (by decide) ?_
      refine sp_ite (fun h11 => ?_) (fun h11 => ?_)
      · refine s_if0 rfl (zc_ne0 h11) ?_
        refine s_aload rfl rfl ?_
        refine s_getF rfl hT4 ho0 rfl ?_
        refine s_const rfl ?_
        refine s_iload rfl rfl ?_
        refine s_bin rfl rfl ?_
        refine s_iload rfl rfl ?_
        refine s_iload rfl rfl ?_
        refine s_callI [.int v6_8, .int v5_7] [.int (4 * v6_8), .ref (o0 + 14)] rfl rfl (Nat.le_of_ble_eq_true rfl) (ev_226 (d := d) (by omega) hT4 ) (fun r13 w12 hT12 => ?_)
        refine s_bin rfl rfl ?_
        refine s_const rfl ?_
        refine s_iast rfl hT12 (of_10_36 ho0) (fun w14 hT14 => ?_)
        refine s_goto rfl ?_
        refine s_iload rfl rfl ?_
        refine s_istoreF [(0, .ref o0), (1, .int p1), (3, .int v4_6)] rfl (subl_c rfl (subl_c rfl (subl_c rfl (subl_n)))) ?_
        refine s_goto rfl ?_
        exact s_back (lvL := lvL3) (s' := v4_6) (subl_c rfl (subl_c rfl (subl_c rfl (subl_n)))) hT14 (fun _ _ h => h)
      · refine s_if1 rfl (zc_ne1 h11) ?_
        refine s_aload rfl rfl ?_
        refine s_getF rfl hT4 ho0 rfl ?_
        refine s_const rfl ?_
        refine s_iload rfl rfl ?_
        refine s_bin rfl rfl ?_
        refine s_iload rfl rfl ?_
        refine s_iload rfl rfl ?_
        refine s_callI [.int v5_7, .int v6_8] [.int (4 * v5_7), .ref (o0 + 14)] rfl rfl (Nat.le_of_ble_eq_true rfl) (ev_226 (d := d) (by omega) hT4 ) (fun r16 w15 hT15 => ?_)
        refine s_bin rfl rfl ?_
        refine s_const rfl ?_
        refine s_iast rfl hT15 (of_10_36 ho0) (fun w17 hT17 => ?_)
        refine s_iload rfl rfl ?_
        refine s_istoreF [(0, .ref o0), (1, .int p1), (3, .int v4_6)] rfl (subl_c rfl (subl_c rfl (subl_c rfl (subl_n)))) ?_
        refine s_goto rfl ?_
        exact s_back (lvL := lvL3) (s' := v4_6) (subl_c rfl (subl_c rfl (subl_c rfl (subl_n)))) hT17 (fun _ _ h => h)
/-- RugReaderModel.isOpen(I)Z -/
def sh_261 (o0 : Nat) (p1 : Int32) (w : Wd) : Option (Bool × Wd) := if 0 ≤ p1 then (gd (ib (25 + p1) 10265) (if wI w (o0 + 2) (ix (25 + p1)) = 0 then (gd (ib p1 144) (if wI w (o0 + 19) (ix p1) = 0 then (some (true, w)) else (some (false, w)))) else (some (false, w)))) else (some (false, w))
set_option maxRecDepth 20000 in
set_option maxHeartbeats 4000000 in
theorem ev_261 {d : Nat} (hd : 1 ≤ d) {o0 : Nat} {p1 : Int32} {w : Wd} (hT : TY w) (ho0 : ist o0 10) : sp (sh_261 o0 p1 w) (fun r w' => TY w' ∧ Ev d 261 [.ref o0, .int p1] w (cvZ r) w') := by
  obtain ⟨d, rfl⟩ : ∃ d', d = d' + 1 := ⟨d - 1, by omega⟩
  refine ev_of (M := M261) zin_261 rfl (by decide) rfl (Nat.le_of_ble_eq_true rfl) (Or.inr ⟨o0, _, rfl, ho0⟩) hT ?_
  show sp _ (PP (Ev d) M261 (KR cvZ) (0, [(0, .ref o0), (1, .int p1)], [], w))
  unfold sh_261
  refine s_iload rfl rfl ?_
  refine sp_ite (fun h1 => ?_) (fun h1 => ?_)
  · refine s_if0 rfl (zc_lt0 h1) ?_
    refine s_aload rfl rfl ?_
    refine s_getF rfl hT ho0 rfl ?_
    refine s_const rfl ?_
    refine s_iload rfl rfl ?_
    refine s_bin rfl rfl ?_
    refine s_iald rfl hT (of_10_6 ho0) ?_
    refine sp_ite (fun h2 => ?_) (fun h2 => ?_)
    · refine s_if0 rfl (zc_ne0 h2) ?_
      refine s_aload rfl rfl ?_
      refine s_getF rfl hT ho0 rfl ?_
      refine s_iload rfl rfl ?_
      refine s_bald rfl hT (of_10_41 ho0) (Or.inr rfl) ?_
      refine sp_ite (fun h3 => ?_) (fun h3 => ?_)
      · refine s_if0 rfl (zc_ne0 h3) ?_
        refine s_const rfl ?_
        refine s_goto rfl ?_
        exact s_retZ (z := true) rfl rfl hT (fun _ _ h => h)
      · refine s_if1 rfl (zc_ne1 h3) ?_
        refine s_const rfl ?_
        exact s_retZ (z := false) rfl rfl hT (fun _ _ h => h)
    · refine s_if1 rfl (zc_ne1 h2) ?_
      refine s_const rfl ?_
      exact s_retZ (z := false) rfl rfl hT (fun _ _ h => h)
  · refine s_if1 rfl (zc_lt1 h1) ?_
    refine s_const rfl ?_
    exact s_retZ (z := false) rfl rfl hT (fun _ _ h => h)
/-- RugReaderModel.runsMore(II)Z -/
def sh_258 (o0 : Nat) (p1 : Int32) (p2 : Int32) (w : Wd) : Option (Bool × Wd) := itM (fun (v3_1 : Int32) (w3 : Wd) => if v3_1 < 288 then (gd (ib v3_1 288) (stI w3 (o0 + 16) (ix v3_1) (-1) (fun w5 => lt (v3_1 + 1 : Int32) (fun v3_6 => some (.inl v3_6, w5))))) else (stI w3 o0 43 0 (fun w7 => cl (sh_259 o0 ((2 * p1) + 1) ((2 * p1) + 1) w7) (fun _ w8 => itM (fun (v3_10 : Int32) (w12 : Wd) => if v3_10 < wI w12 o0 43 then (gd (ib v3_10 288) (lt ((wI w12 (o0 + 17) (ix v3_10)) / 2 : Int32) (fun v4_14 => gd (ib v3_10 288) (if wI w12 (o0 + 17) (ix v3_10) = 2 * p2 then (cl (sh_260 o0 p1 p2 w12) (fun r17 w16 => some (.inr (.inr (r17)), w16))) else (gd (ib v3_10 288) (if zrem (wI w12 (o0 + 17) (ix v3_10)) 2 = 1 then (itM (fun (v5_19 : Int32) (w21 : Wd) => if v5_19 < 4 then (cl (sh_251 o0 v4_14 v5_19 w21) (fun r24 w23 => cl (sh_261 o0 r24 w23) (fun r26 w25 => if r26 = true then (if r24 = p1 then (lt (v5_19 + 1 : Int32) (fun v5_29 => some (.inl v5_29, w25))) else (gd (ib ((4 * v4_14) + v5_19) 576) (if wI w25 (o0 + 14) (ix ((4 * v4_14) + v5_19)) = 0 then (gd (ib v3_10 288) (cl (sh_259 o0 (2 * r24) (wI w25 (o0 + 17) (ix v3_10)) w25) (fun _ w31 => lt (v5_19 + 1 : Int32) (fun v5_33 => some (.inl v5_33, w31))))) else (lt (v5_19 + 1 : Int32) (fun v5_34 => some (.inl v5_34, w25)))))) else (lt (v5_19 + 1 : Int32) (fun v5_35 => some (.inl v5_35, w25)))))) else (if v4_14 = p1 then (lt (v3_10 + 1 : Int32) (fun v3_37 => some (.inr (.inl v3_37), w21))) else (gd (ib v4_14 144) (if wI w21 (o0 + 15) (ix v4_14) = 1 then (gd (ib v3_10 288) (cl (sh_259 o0 (2 * v4_14) (wI w21 (o0 + 17) (ix v3_10)) w21) (fun _ w39 => lt (v3_10 + 1 : Int32) (fun v3_41 => some (.inr (.inl v3_41), w39))))) else (lt (v3_10 + 1 : Int32) (fun v3_42 => some (.inr (.inl v3_42), w21))))))) FU 0 w12) else (gd (ib v4_14 144) (jn (fun (s64 : Unit) (w45 : Wd) => itM (fun (v5_46 : Int32) (w48 : Wd) => if v5_46 < 4 then (cl (sh_251 o0 v4_14 v5_46 w48) (fun r51 w50 => if 0 ≤ r51 then (gd (ib ((4 * r51) + (zrem (v5_46 + 2) 4)) 576) (if wI w50 (o0 + 14) (ix ((4 * r51) + (zrem (v5_46 + 2) 4))) = 1 then (gd (ib v3_10 288) (cl (sh_259 o0 ((2 * r51) + 1) (wI w50 (o0 + 17) (ix v3_10)) w50) (fun _ w54 => lt (v5_46 + 1 : Int32) (fun v5_56 => some (.inl v5_56, w54))))) else (lt (v5_46 + 1 : Int32) (fun v5_57 => some (.inl v5_57, w50))))) else (lt (v5_46 + 1 : Int32) (fun v5_58 => some (.inl v5_58, w50))))) else (lt (v3_10 + 1 : Int32) (fun v3_59 => some (.inr (.inl v3_59), w48)))) FU 0 w45) (fun j44 => if wI w12 (o0 + 15) (ix v4_14) = 0 then (gd (ib v3_10 288) (cl (sh_259 o0 ((2 * v4_14) + 1) (wI w12 (o0 + 17) (ix v3_10)) w12) (fun _ w62 => j44 () w62))) else (j44 () w12)))))))))) else (some (.inr (.inr (false)), w12))) FU 0 w8)))) FU 0 w
set_option maxRecDepth 20000 in
set_option maxHeartbeats 4000000 in
theorem ev_258 {d : Nat} (hd : 4 ≤ d) {o0 : Nat} {p1 : Int32} {p2 : Int32} {w : Wd} (hT : TY w) (ho0 : ist o0 10) : sp (sh_258 o0 p1 p2 w) (fun r w' => TY w' ∧ Ev d 258 [.ref o0, .int p1, .int p2] w (cvZ r) w') := by
  obtain ⟨d, rfl⟩ : ∃ d', d = d' + 1 := ⟨d - 1, by omega⟩
  refine ev_of (M := M258) zin_258 rfl (by decide) rfl (Nat.le_of_ble_eq_true rfl) (Or.inr ⟨o0, _, rfl, ho0⟩) hT ?_
  show sp _ (PP (Ev d) M258 (KR cvZ) (0, [(0, .ref o0), (1, .int p1), (2, .int p2)], [], w))
  unfold sh_258
  refine s_const rfl ?_
  refine s_istoreF [(0, .ref o0), (1, .int p1), (2, .int p2), (3, .int 0)] rfl (subl_c rfl (subl_c rfl (subl_c rfl (subl_c rfl (subl_n))))) ?_
  let lvL2 : Int32 → List (Nat × Value) := fun s66 => [(0, .ref o0), (1, .int p1), (2, .int p2), (3, .int s66)]
  refine s_loop lvL2 (subl_c rfl (subl_c rfl (subl_c rfl (subl_c rfl (subl_n))))) hT (fun v3_1 w3 hT3 => ?_)
  show sp _ (PP _ _ _ (2, [(0, .ref o0), (1, .int p1), (2, .int p2), (3, .int v3_1)], [], w3))
  refine s_iload rfl rfl ?_
  refine s_const rfl ?_
  refine sp_ite (fun h4 => ?_) (fun h4 => ?_)
  · refine s_ic0 rfl (zc_ge0 h4) ?_
    refine s_aload rfl rfl ?_
    refine s_getF rfl hT3 ho0 rfl ?_
    refine s_iload rfl rfl ?_
    refine s_const rfl ?_
    refine s_iast rfl hT3 (of_10_38 ho0) (fun w5 hT5 => ?_)
    refine s_iincF (fun v3_6 => [(0, .ref o0), (1, .int p1), (2, .int p2), (3, .int v3_6)]) rfl rfl (fun _ => subl_c rfl (subl_c rfl (subl_c rfl (subl_c rfl (subl_n))))) (fun v3_6 => ?_)
    refine s_goto rfl ?_
    exact s_back (lvL := lvL2) (s' := v3_6) (subl_c rfl (subl_c rfl (subl_c rfl (subl_c rfl (subl_n))))) hT5 (fun _ _ h => h)
  · refine s_ic1 rfl (zc_ge1 h4) ?_
    refine s_aload rfl rfl ?_
    refine s_const rfl ?_
    refine s_putI rfl hT3 ho0 rfl (fun w7 hT7 => ?_)
    refine s_aload rfl rfl ?_
    refine s_const rfl ?_
    refine s_iload rfl rfl ?_
    refine s_bin rfl rfl ?_
    refine s_const rfl ?_
    refine s_bin rfl rfl ?_
    refine s_const rfl ?_
    refine s_iload rfl rfl ?_
    refine s_bin rfl rfl ?_
    refine s_const rfl ?_
    refine s_bin rfl rfl ?_
    refine s_callV [.ref o0, .int ((2 * p1) + 1), .int ((2 * p1) + 1)] [] rfl rfl (Nat.le_of_ble_eq_true rfl) (ev_259 (d := d) (by omega) hT7 ho0) (fun _ w8 hT8 => ?_)
    refine s_const rfl ?_
    refine s_istoreF [(0, .ref o0), (1, .int p1), (2, .int p2), (3, .int 0)] rfl (subl_c rfl (subl_c rfl (subl_c rfl (subl_c rfl (subl_n))))) ?_
    let lvL11 : Int32 → List (Nat × Value) := fun s65 => [(0, .ref o0), (1, .int p1), (2, .int p2), (3, .int s65)]
    refine s_loop lvL11 (subl_c rfl (subl_c rfl (subl_c rfl (subl_c rfl (subl_n))))) hT8 (fun v3_10 w12 hT12 => ?_)
    show sp _ (PP _ _ _ (43, [(0, .ref o0), (1, .int p1), (2, .int p2), (3, .int v3_10)], [], w12))
    refine s_iload rfl rfl ?_
    refine s_aload rfl rfl ?_
    refine s_getI rfl hT12 ho0 ?_
    refine sp_ite (fun h13 => ?_) (fun h13 => ?_)
    · refine s_ic0 rfl (zc_ge0 h13) ?_
      refine s_aload rfl rfl ?_
      refine s_getF rfl hT12 ho0 rfl ?_
      refine s_iload rfl rfl ?_
      refine s_iald rfl hT12 (of_10_39 ho0) ?_
      refine s_const rfl ?_
      refine s_div rfl (by decide) ?_
      refine s_nmI (fun v4_14 => ?_)
      refine s_istoreF [(0, .ref o0), (1, .int p1), (2, .int p2), (3, .int v3_10), (4, .int v4_14)] rfl (subl_c rfl (subl_c rfl (subl_c rfl (subl_c rfl (subl_c rfl (subl_n)))))) ?_
      refine s_aload rfl rfl ?_
      refine s_getF rfl hT12 ho0 rfl ?_
      refine s_iload rfl rfl ?_
      refine s_iald rfl hT12 (of_10_39 ho0) ?_
      refine s_const rfl ?_
      refine s_iload rfl rfl ?_
      refine s_bin rfl rfl ?_
      refine sp_ite (fun h15 => ?_) (fun h15 => ?_)
      · refine s_ic0 rfl (zc_ne0 h15) ?_
        refine s_aload rfl rfl ?_
        refine s_iload rfl rfl ?_
        refine s_iload rfl rfl ?_
        refine s_callZ [.ref o0, .int p1, .int p2] [] rfl rfl (Nat.le_of_ble_eq_true rfl) (ev_260 (d := d) (by omega) hT12 ho0) (fun r17 w16 hT16 => ?_)
        exact s_retZ (z := r17) rfl rfl hT16 (fun _ _ h => h)
      · refine s_ic1 rfl (zc_ne1 h15) ?_
        refine s_aload rfl rfl ?_
        refine s_getF rfl hT12 ho0 rfl ?_
        refine s_iload rfl rfl ?_
        refine s_iald rfl hT12 (of_10_39 ho0) ?_
        refine s_const rfl ?_
        refine s_rem rfl (by decide) ?_
        refine s_const rfl ?_
        refine sp_ite (fun h18 => ?_) (fun h18 => ?_)
        · refine s_ic0 rfl (zc_ne0 h18) ?_
          refine s_const rfl ?_
          refine s_istoreF [(0, .ref o0), (1, .int p1), (2, .int p2), (3, .int v3_10), (4, .int v4_14), (5, .int 0)] rfl (subl_c rfl (subl_c rfl (subl_c rfl (subl_c rfl (subl_c rfl (subl_c rfl (subl_n))))))) ?_
          let lvL20 : Int32 → List (Nat × Value) := fun s43 => [(0, .ref o0), (1, .int p1), (2, .int p2), (3, .int v3_10), (4, .int v4_14), (5, .int s43)]
          refine s_loop lvL20 (subl_c rfl (subl_c rfl (subl_c rfl (subl_c rfl (subl_c rfl (subl_c rfl (subl_n))))))) hT12 (fun v5_19 w21 hT21 => ?_)
          show sp _ (PP _ _ _ (95, [(0, .ref o0), (1, .int p1), (2, .int p2), (3, .int v3_10), (4, .int v4_14), (5, .int v5_19)], [], w21))
          refine s_iload rfl rfl ?_
          refine s_const rfl ?_
          refine sp_ite (fun h22 => ?_) (fun h22 => ?_)
          · refine s_ic0 rfl (zc_ge0 h22) ?_
            refine s_aload rfl rfl ?_
            refine s_iload rfl rfl ?_
            refine s_iload rfl rfl ?_
            refine s_callI [.ref o0, .int v4_14, .int v5_19] [] rfl rfl (Nat.le_of_ble_eq_true rfl) (ev_251 (d := d) (by omega) hT21 ho0) (fun r24 w23 hT23 => ?_)
            refine s_istoreF [(0, .ref o0), (1, .int p1), (2, .int p2), (3, .int v3_10), (4, .int v4_14), (5, .int v5_19), (6, .int r24)] rfl (subl_c rfl (subl_c rfl (subl_c rfl (subl_c rfl (subl_c rfl (subl_c rfl (subl_c rfl (subl_n)))))))) ?_
            refine s_aload rfl rfl ?_
            refine s_iload rfl rfl ?_
            refine s_callZ [.ref o0, .int r24] [] rfl rfl (Nat.le_of_ble_eq_true rfl) (ev_261 (d := d) (by omega) hT23 ho0) (fun r26 w25 hT25 => ?_)
            refine sp_ite (fun h27 => ?_) (fun h27 => ?_)
            · refine s_if0 rfl (zb_eq0 h27) ?_
              refine s_iload rfl rfl ?_
              refine s_iload rfl rfl ?_
              refine sp_ite (fun h28 => ?_) (fun h28 => ?_)
              · refine s_ic1 rfl (zc_eq1 h28) ?_
                refine s_iincF (fun v5_29 => [(0, .ref o0), (1, .int p1), (2, .int p2), (3, .int v3_10), (4, .int v4_14), (5, .int v5_29)]) rfl rfl (fun _ => subl_c rfl (subl_c rfl (subl_c rfl (subl_c rfl (subl_c rfl (subl_c rfl (subl_n))))))) (fun v5_29 => ?_)
                refine s_goto rfl ?_
                exact s_back (lvL := lvL20) (s' := v5_29) (subl_c rfl (subl_c rfl (subl_c rfl (subl_c rfl (subl_c rfl (subl_c rfl (subl_n))))))) hT25 (fun _ _ h => h)
              · refine s_ic0 rfl (zc_eq0 h28) ?_
                refine s_aload rfl rfl ?_
                refine s_getF rfl hT25 ho0 rfl ?_
                refine s_const rfl ?_
                refine s_iload rfl rfl ?_
                refine s_bin rfl rfl ?_
                refine s_iload rfl rfl ?_
                refine s_bin rfl rfl ?_
                refine s_iald rfl hT25 (of_10_36 ho0) ?_
                refine sp_ite (fun h30 => ?_) (fun h30 => ?_)
                · refine s_if0 rfl (zc_ne0 h30) ?_
                  refine s_aload rfl rfl ?_
                  refine s_const rfl ?_
                  refine s_iload rfl rfl ?_
                  refine s_bin rfl rfl ?_
                  refine s_aload rfl rfl ?_
                  refine s_getF rfl hT25 ho0 rfl ?_
                  refine s_iload rfl rfl ?_
                  refine s_iald rfl hT25 (of_10_39 ho0) ?_
                  refine s_callV [.ref o0, .int (2 * r24), .int (wI w25 (o0 + 17) (ix v3_10))] [] rfl rfl (Nat.le_of_ble_eq_true rfl) (ev_259 (d := d) (by omega) hT25 ho0) (fun _ w31 hT31 => ?_)
                  refine s_iincF (fun v5_33 => [(0, .ref o0), (1, .int p1), (2, .int p2), (3, .int v3_10), (4, .int v4_14), (5, .int v5_33)]) rfl rfl (fun _ => subl_c rfl (subl_c rfl (subl_c rfl (subl_c rfl (subl_c rfl (subl_c rfl (subl_n))))))) (fun v5_33 => ?_)
                  refine s_goto rfl ?_
                  exact s_back (lvL := lvL20) (s' := v5_33) (subl_c rfl (subl_c rfl (subl_c rfl (subl_c rfl (subl_c rfl (subl_c rfl (subl_n))))))) hT31 (fun _ _ h => h)
                · refine s_if1 rfl (zc_ne1 h30) ?_
                  refine s_iincF (fun v5_34 => [(0, .ref o0), (1, .int p1), (2, .int p2), (3, .int v3_10), (4, .int v4_14), (5, .int v5_34)]) rfl rfl (fun _ => subl_c rfl (subl_c rfl (subl_c rfl (subl_c rfl (subl_c rfl (subl_c rfl (subl_n))))))) (fun v5_34 => ?_)
                  refine s_goto rfl ?_
                  exact s_back (lvL := lvL20) (s' := v5_34) (subl_c rfl (subl_c rfl (subl_c rfl (subl_c rfl (subl_c rfl (subl_c rfl (subl_n))))))) hT25 (fun _ _ h => h)
            · refine s_if1 rfl (zb_eq1 h27) ?_
              refine s_iincF (fun v5_35 => [(0, .ref o0), (1, .int p1), (2, .int p2), (3, .int v3_10), (4, .int v4_14), (5, .int v5_35)]) rfl rfl (fun _ => subl_c rfl (subl_c rfl (subl_c rfl (subl_c rfl (subl_c rfl (subl_c rfl (subl_n))))))) (fun v5_35 => ?_)
              refine s_goto rfl ?_
              exact s_back (lvL := lvL20) (s' := v5_35) (subl_c rfl (subl_c rfl (subl_c rfl (subl_c rfl (subl_c rfl (subl_c rfl (subl_n))))))) hT25 (fun _ _ h => h)
          · refine s_ic1 rfl (zc_ge1 h22) ?_
            refine s_iload rfl rfl ?_
            refine s_iload rfl rfl ?_
            refine sp_ite (fun h36 => ?_) (fun h36 => ?_)
            · refine s_ic1 rfl (zc_eq1 h36) ?_
              refine s_iincF (fun v3_37 => [(0, .ref o0), (1, .int p1), (2, .int p2), (3, .int v3_37)]) rfl rfl (fun _ => subl_c rfl (subl_c rfl (subl_c rfl (subl_c rfl (subl_n))))) (fun v3_37 => ?_)
              refine s_goto rfl ?_
              exact s_back (lvL := lvL11) (s' := v3_37) (subl_c rfl (subl_c rfl (subl_c rfl (subl_c rfl (subl_n))))) hT21 (fun _ _ h => h)
            · refine s_ic0 rfl (zc_eq0 h36) ?_
              refine s_aload rfl rfl ?_
              refine s_getF rfl hT21 ho0 rfl ?_
              refine s_iload rfl rfl ?_
              refine s_iald rfl hT21 (of_10_37 ho0) ?_
              refine s_const rfl ?_
              refine sp_ite (fun h38 => ?_) (fun h38 => ?_)
              · refine s_ic0 rfl (zc_ne0 h38) ?_
                refine s_aload rfl rfl ?_
                refine s_const rfl ?_
                refine s_iload rfl rfl ?_
                refine s_bin rfl rfl ?_
                refine s_aload rfl rfl ?_
                refine s_getF rfl hT21 ho0 rfl ?_
                refine s_iload rfl rfl ?_
                refine s_iald rfl hT21 (of_10_39 ho0) ?_
                refine s_callV [.ref o0, .int (2 * v4_14), .int (wI w21 (o0 + 17) (ix v3_10))] [] rfl rfl (Nat.le_of_ble_eq_true rfl) (ev_259 (d := d) (by omega) hT21 ho0) (fun _ w39 hT39 => ?_)
                refine s_goto rfl ?_
                refine s_iincF (fun v3_41 => [(0, .ref o0), (1, .int p1), (2, .int p2), (3, .int v3_41)]) rfl rfl (fun _ => subl_c rfl (subl_c rfl (subl_c rfl (subl_c rfl (subl_n))))) (fun v3_41 => ?_)
                refine s_goto rfl ?_
                exact s_back (lvL := lvL11) (s' := v3_41) (subl_c rfl (subl_c rfl (subl_c rfl (subl_c rfl (subl_n))))) hT39 (fun _ _ h => h)
              · refine s_ic1 rfl (zc_ne1 h38) ?_
                refine s_iincF (fun v3_42 => [(0, .ref o0), (1, .int p1), (2, .int p2), (3, .int v3_42)]) rfl rfl (fun _ => subl_c rfl (subl_c rfl (subl_c rfl (subl_c rfl (subl_n))))) (fun v3_42 => ?_)
                refine s_goto rfl ?_
                exact s_back (lvL := lvL11) (s' := v3_42) (subl_c rfl (subl_c rfl (subl_c rfl (subl_c rfl (subl_n))))) hT21 (fun _ _ h => h)
        · refine s_ic1 rfl (zc_ne1 h18) ?_
          refine s_aload rfl rfl ?_
          refine s_getF rfl hT12 ho0 rfl ?_
          refine s_iload rfl rfl ?_
          refine s_iald rfl hT12 (of_10_37 ho0) ?_
          refine s_jnP (fun (s64 : Unit) w => (221, [(0, .ref o0), (1, .int p1), (2, .int p2), (3, .int v3_10), (4, .int v4_14)], [], w)) (fun s64 w45 hT45 => ?_) (fun j44 hj44 => ?_)
          · show sp _ (PP _ _ _ (221, [(0, .ref o0), (1, .int p1), (2, .int p2), (3, .int v3_10), (4, .int v4_14)], [], w45))
            refine s_const rfl ?_
            refine s_istoreF [(0, .ref o0), (1, .int p1), (2, .int p2), (3, .int v3_10), (4, .int v4_14), (5, .int 0)] rfl (subl_c rfl (subl_c rfl (subl_c rfl (subl_c rfl (subl_c rfl (subl_c rfl (subl_n))))))) ?_
            let lvL47 : Int32 → List (Nat × Value) := fun s60 => [(0, .ref o0), (1, .int p1), (2, .int p2), (3, .int v3_10), (4, .int v4_14), (5, .int s60)]
            refine s_loop lvL47 (subl_c rfl (subl_c rfl (subl_c rfl (subl_c rfl (subl_c rfl (subl_c rfl (subl_n))))))) hT45 (fun v5_46 w48 hT48 => ?_)
            show sp _ (PP _ _ _ (224, [(0, .ref o0), (1, .int p1), (2, .int p2), (3, .int v3_10), (4, .int v4_14), (5, .int v5_46)], [], w48))
            refine s_iload rfl rfl ?_
            refine s_const rfl ?_
            refine sp_ite (fun h49 => ?_) (fun h49 => ?_)
            · refine s_ic0 rfl (zc_ge0 h49) ?_
              refine s_aload rfl rfl ?_
              refine s_iload rfl rfl ?_
              refine s_iload rfl rfl ?_
              refine s_callI [.ref o0, .int v4_14, .int v5_46] [] rfl rfl (Nat.le_of_ble_eq_true rfl) (ev_251 (d := d) (by omega) hT48 ho0) (fun r51 w50 hT50 => ?_)
              refine s_istoreF [(0, .ref o0), (1, .int p1), (2, .int p2), (3, .int v3_10), (4, .int v4_14), (5, .int v5_46), (6, .int r51)] rfl (subl_c rfl (subl_c rfl (subl_c rfl (subl_c rfl (subl_c rfl (subl_c rfl (subl_c rfl (subl_n)))))))) ?_
              refine s_iload rfl rfl ?_
              refine sp_ite (fun h52 => ?_) (fun h52 => ?_)
              · refine s_if0 rfl (zc_lt0 h52) ?_
                refine s_aload rfl rfl ?_
                refine s_getF rfl hT50 ho0 rfl ?_
                refine s_const rfl ?_
                refine s_iload rfl rfl ?_
                refine s_bin rfl rfl ?_
                refine s_iload rfl rfl ?_
                refine s_const rfl ?_
                refine s_bin rfl rfl ?_
                refine s_const rfl ?_
                refine s_rem rfl (by decide) ?_
                refine s_bin rfl rfl ?_
                refine s_iald rfl hT50 (of_10_36 ho0) ?_
                refine s_const rfl ?_
                refine sp_ite (fun h53 => ?_) (fun h53 => ?_)
                · refine s_ic0 rfl (zc_ne0 h53) ?_
                  refine s_aload rfl rfl ?_
                  refine s_const rfl ?_
                  refine s_iload rfl rfl ?_
                  refine s_bin rfl rfl ?_
                  refine s_const rfl ?_
                  refine s_bin rfl rfl ?_
                  refine s_aload rfl rfl ?_
                  refine s_getF rfl hT50 ho0 rfl ?_
                  refine s_iload rfl rfl ?_
                  refine s_iald rfl hT50 (of_10_39 ho0) ?_
                  refine s_callV [.ref o0, .int ((2 * r51) + 1), .int (wI w50 (o0 + 17) (ix v3_10))] [] rfl rfl (Nat.le_of_ble_eq_true rfl) (ev_259 (d := d) (by omega) hT50 ho0) (fun _ w54 hT54 => ?_)
                  refine s_iincF (fun v5_56 => [(0, .ref o0), (1, .int p1), (2, .int p2), (3, .int v3_10), (4, .int v4_14), (5, .int v5_56)]) rfl rfl (fun _ => subl_c rfl (subl_c rfl (subl_c rfl (subl_c rfl (subl_c rfl (subl_c rfl (subl_n))))))) (fun v5_56 => ?_)
                  refine s_goto rfl ?_
                  exact s_back (lvL := lvL47) (s' := v5_56) (subl_c rfl (subl_c rfl (subl_c rfl (subl_c rfl (subl_c rfl (subl_c rfl (subl_n))))))) hT54 (fun _ _ h => h)
                · refine s_ic1 rfl (zc_ne1 h53) ?_
                  refine s_iincF (fun v5_57 => [(0, .ref o0), (1, .int p1), (2, .int p2), (3, .int v3_10), (4, .int v4_14), (5, .int v5_57)]) rfl rfl (fun _ => subl_c rfl (subl_c rfl (subl_c rfl (subl_c rfl (subl_c rfl (subl_c rfl (subl_n))))))) (fun v5_57 => ?_)
                  refine s_goto rfl ?_
                  exact s_back (lvL := lvL47) (s' := v5_57) (subl_c rfl (subl_c rfl (subl_c rfl (subl_c rfl (subl_c rfl (subl_c rfl (subl_n))))))) hT50 (fun _ _ h => h)
              · refine s_if1 rfl (zc_lt1 h52) ?_
                refine s_iincF (fun v5_58 => [(0, .ref o0), (1, .int p1), (2, .int p2), (3, .int v3_10), (4, .int v4_14), (5, .int v5_58)]) rfl rfl (fun _ => subl_c rfl (subl_c rfl (subl_c rfl (subl_c rfl (subl_c rfl (subl_c rfl (subl_n))))))) (fun v5_58 => ?_)
                refine s_goto rfl ?_
                exact s_back (lvL := lvL47) (s' := v5_58) (subl_c rfl (subl_c rfl (subl_c rfl (subl_c rfl (subl_c rfl (subl_c rfl (subl_n))))))) hT50 (fun _ _ h => h)
            · refine s_ic1 rfl (zc_ge1 h49) ?_
              refine s_iincF (fun v3_59 => [(0, .ref o0), (1, .int p1), (2, .int p2), (3, .int v3_59)]) rfl rfl (fun _ => subl_c rfl (subl_c rfl (subl_c rfl (subl_c rfl (subl_n))))) (fun v3_59 => ?_)
              refine s_goto rfl ?_
              exact s_back (lvL := lvL11) (s' := v3_59) (subl_c rfl (subl_c rfl (subl_c rfl (subl_c rfl (subl_n))))) hT48 (fun _ _ h => h)
          · refine sp_ite (fun h61 => ?_) (fun h61 => ?_)
            · refine s_if0 rfl (zc_ne0 h61) ?_
              refine s_aload rfl rfl ?_
              refine s_const rfl ?_
              refine s_iload rfl rfl ?_
              refine s_bin rfl rfl ?_
              refine s_const rfl ?_
              refine s_bin rfl rfl ?_
              refine s_aload rfl rfl ?_
              refine s_getF rfl hT12 ho0 rfl ?_
              refine s_iload rfl rfl ?_
              refine s_iald rfl hT12 (of_10_39 ho0) ?_
              refine s_callV [.ref o0, .int ((2 * v4_14) + 1), .int (wI w12 (o0 + 17) (ix v3_10))] [] rfl rfl (Nat.le_of_ble_eq_true rfl) (ev_259 (d := d) (by omega) hT12 ho0) (fun _ w62 hT62 => ?_)
              exact s_fgt _ (subl_c rfl (subl_c rfl (subl_c rfl (subl_c rfl (subl_c rfl (subl_n)))))) (hj44 () w62 hT62)
            · refine s_if1 rfl (zc_ne1 h61) ?_
              exact s_fgt _ (subl_c rfl (subl_c rfl (subl_c rfl (subl_c rfl (subl_c rfl (subl_n)))))) (hj44 () w12 hT12)
    · refine s_ic1 rfl (zc_ge1 h13) ?_
      refine s_const rfl ?_
      exact s_retZ (z := false) rfl rfl hT12 (fun _ _ h => h)
/-- RugReaderModel.rowsBetween(II)I -/
def sh_257 (o0 : Nat) (p1 : Int32) (p2 : Int32) (w : Wd) : Option (Int32 × Wd) := itM (fun (v3_1 : Int32) (w3 : Wd) => if v3_1 < 576 then (gd (ib v3_1 576) (stI w3 (o0 + 14) (ix v3_1) 0 (fun w5 => lt (v3_1 + 1 : Int32) (fun v3_6 => some (.inl v3_6, w5))))) else (itM (fun (v3_7 : Int32) (w9 : Wd) => if v3_7 < 144 then (gd (ib v3_7 144) (stI w9 (o0 + 15) (ix v3_7) 0 (fun w11 => lt (v3_7 + 1 : Int32) (fun v3_12 => some (.inl v3_12, w11))))) else (gd (ib (25 + p1) 10265) (if wI w9 (o0 + 2) (ix (25 + p1)) = 1 then (some (.inr (.inr (0)), w9)) else (gd (ib (25 + p2) 10265) (if wI w9 (o0 + 2) (ix (25 + p2)) = 1 then (some (.inr (.inr (0)), w9)) else (itM (fun (v3_15 : Int32) (w17 : Wd) => cl (sh_258 o0 p1 p2 w17) (fun r19 w18 => if r19 = true then (lt (v3_15 + 1 : Int32) (fun v3_21 => some (.inl v3_21, w18))) else (some (.inr (.inr (.inr (v3_15))), w18)))) FU 0 w9)))))) FU 0 w3)) FU 0 w
set_option maxRecDepth 20000 in
set_option maxHeartbeats 4000000 in
theorem ev_257 {d : Nat} (hd : 5 ≤ d) {o0 : Nat} {p1 : Int32} {p2 : Int32} {w : Wd} (hT : TY w) (ho0 : ist o0 10) : sp (sh_257 o0 p1 p2 w) (fun r w' => TY w' ∧ Ev d 257 [.ref o0, .int p1, .int p2] w (cvI r) w') := by
  obtain ⟨d, rfl⟩ : ∃ d', d = d' + 1 := ⟨d - 1, by omega⟩
  refine ev_of (M := M257) zin_257 rfl (by decide) rfl (Nat.le_of_ble_eq_true rfl) (Or.inr ⟨o0, _, rfl, ho0⟩) hT ?_
  show sp _ (PP (Ev d) M257 (KR cvI) (0, [(0, .ref o0), (1, .int p1), (2, .int p2)], [], w))
  unfold sh_257
  refine s_const rfl ?_
  refine s_istoreF [(0, .ref o0), (1, .int p1), (2, .int p2), (3, .int 0)] rfl (subl_c rfl (subl_c rfl (subl_c rfl (subl_c rfl (subl_n))))) ?_
  let lvL2 : Int32 → List (Nat × Value) := fun s24 => [(0, .ref o0), (1, .int p1), (2, .int p2), (3, .int s24)]
  refine s_loop lvL2 (subl_c rfl (subl_c rfl (subl_c rfl (subl_c rfl (subl_n))))) hT (fun v3_1 w3 hT3 => ?_)
  show sp _ (PP _ _ _ (2, [(0, .ref o0), (1, .int p1), (2, .int p2), (3, .int v3_1)], [], w3))
  refine s_iload rfl rfl ?_
  refine s_const rfl ?_
  refine sp_ite (fun h4 => ?_) (fun h4 => ?_)
  · refine s_ic0 rfl (zc_ge0 h4) ?_
    refine s_aload rfl rfl ?_
    refine s_getF rfl hT3 ho0 rfl ?_
    refine s_iload rfl rfl ?_
    refine s_const rfl ?_
    refine s_iast rfl hT3 (of_10_36 ho0) (fun w5 hT5 => ?_)
    refine s_iincF (fun v3_6 => [(0, .ref o0), (1, .int p1), (2, .int p2), (3, .int v3_6)]) rfl rfl (fun _ => subl_c rfl (subl_c rfl (subl_c rfl (subl_c rfl (subl_n))))) (fun v3_6 => ?_)
    refine s_goto rfl ?_
    exact s_back (lvL := lvL2) (s' := v3_6) (subl_c rfl (subl_c rfl (subl_c rfl (subl_c rfl (subl_n))))) hT5 (fun _ _ h => h)
  · refine s_ic1 rfl (zc_ge1 h4) ?_
    refine s_const rfl ?_
    refine s_istoreF [(0, .ref o0), (1, .int p1), (2, .int p2), (3, .int 0)] rfl (subl_c rfl (subl_c rfl (subl_c rfl (subl_c rfl (subl_n))))) ?_
    let lvL8 : Int32 → List (Nat × Value) := fun s23 => [(0, .ref o0), (1, .int p1), (2, .int p2), (3, .int s23)]
    refine s_loop lvL8 (subl_c rfl (subl_c rfl (subl_c rfl (subl_c rfl (subl_n))))) hT3 (fun v3_7 w9 hT9 => ?_)
    show sp _ (PP _ _ _ (24, [(0, .ref o0), (1, .int p1), (2, .int p2), (3, .int v3_7)], [], w9))
    refine s_iload rfl rfl ?_
    refine s_const rfl ?_
    refine sp_ite (fun h10 => ?_) (fun h10 => ?_)
    · refine s_ic0 rfl (zc_ge0 h10) ?_
      refine s_aload rfl rfl ?_
      refine s_getF rfl hT9 ho0 rfl ?_
      refine s_iload rfl rfl ?_
      refine s_const rfl ?_
      refine s_iast rfl hT9 (of_10_37 ho0) (fun w11 hT11 => ?_)
      refine s_iincF (fun v3_12 => [(0, .ref o0), (1, .int p1), (2, .int p2), (3, .int v3_12)]) rfl rfl (fun _ => subl_c rfl (subl_c rfl (subl_c rfl (subl_c rfl (subl_n))))) (fun v3_12 => ?_)
      refine s_goto rfl ?_
      exact s_back (lvL := lvL8) (s' := v3_12) (subl_c rfl (subl_c rfl (subl_c rfl (subl_c rfl (subl_n))))) hT11 (fun _ _ h => h)
    · refine s_ic1 rfl (zc_ge1 h10) ?_
      refine s_aload rfl rfl ?_
      refine s_getF rfl hT9 ho0 rfl ?_
      refine s_const rfl ?_
      refine s_iload rfl rfl ?_
      refine s_bin rfl rfl ?_
      refine s_iald rfl hT9 (of_10_6 ho0) ?_
      refine s_const rfl ?_
      refine sp_ite (fun h13 => ?_) (fun h13 => ?_)
      · refine s_ic1 rfl (zc_eq1 h13) ?_
        refine s_const rfl ?_
        exact s_retI rfl rfl hT9 (fun _ _ h => h)
      · refine s_ic0 rfl (zc_eq0 h13) ?_
        refine s_aload rfl rfl ?_
        refine s_getF rfl hT9 ho0 rfl ?_
        refine s_const rfl ?_
        refine s_iload rfl rfl ?_
        refine s_bin rfl rfl ?_
        refine s_iald rfl hT9 (of_10_6 ho0) ?_
        refine s_const rfl ?_
        refine sp_ite (fun h14 => ?_) (fun h14 => ?_)
        · refine s_ic0 rfl (zc_ne0 h14) ?_
          refine s_const rfl ?_
          exact s_retI rfl rfl hT9 (fun _ _ h => h)
        · refine s_ic1 rfl (zc_ne1 h14) ?_
          refine s_const rfl ?_
          refine s_istoreF [(0, .ref o0), (1, .int p1), (2, .int p2), (3, .int 0)] rfl (subl_c rfl (subl_c rfl (subl_c rfl (subl_c rfl (subl_n))))) ?_
          let lvL16 : Int32 → List (Nat × Value) := fun s22 => [(0, .ref o0), (1, .int p1), (2, .int p2), (3, .int s22)]
          refine s_loop lvL16 (subl_c rfl (subl_c rfl (subl_c rfl (subl_c rfl (subl_n))))) hT9 (fun v3_15 w17 hT17 => ?_)
          show sp _ (PP _ _ _ (74, [(0, .ref o0), (1, .int p1), (2, .int p2), (3, .int v3_15)], [], w17))
          refine s_aload rfl rfl ?_
          refine s_iload rfl rfl ?_
          refine s_iload rfl rfl ?_
          refine s_callZ [.ref o0, .int p1, .int p2] [] rfl rfl (Nat.le_of_ble_eq_true rfl) (ev_258 (d := d) (by omega) hT17 ho0) (fun r19 w18 hT18 => ?_)
          refine sp_ite (fun h20 => ?_) (fun h20 => ?_)
          · refine s_if0 rfl (zb_eq0 h20) ?_
            refine s_iincF (fun v3_21 => [(0, .ref o0), (1, .int p1), (2, .int p2), (3, .int v3_21)]) rfl rfl (fun _ => subl_c rfl (subl_c rfl (subl_c rfl (subl_c rfl (subl_n))))) (fun v3_21 => ?_)
            refine s_goto rfl ?_
            exact s_back (lvL := lvL16) (s' := v3_21) (subl_c rfl (subl_c rfl (subl_c rfl (subl_c rfl (subl_n))))) hT18 (fun _ _ h => h)
          · refine s_if1 rfl (zb_eq1 h20) ?_
            refine s_iload rfl rfl ?_
            exact s_retI rfl rfl hT18 (fun _ _ h => h)
/-- RugReaderModel.seen(II)I -/
def sh_256 (o0 : Nat) (p1 : Int32) (p2 : Int32) (w : Wd) : Option (Int32 × Wd) := stI w o0 0 0 (fun w1 => gd (ib 5 10265) (cl (sh_199 p1 0 ((wI w1 (o0 + 2) (ix 5)) - 1) w1) (fun r3 w2 => if r3 = true then (gd (ib 5 10265) (cl (sh_199 p2 0 ((wI w2 (o0 + 2) (ix 5)) - 1) w2) (fun r6 w5 => if r6 = true then (if p1 = p2 then (some ((-1), w5)) else (gd (ib (169 + p1) 10265) (lt (wI w5 (o0 + 2) (ix (169 + p1)) : Int32) (fun v3_9 => gd (ib (169 + p2) 10265) (lt (wI w5 (o0 + 2) (ix (169 + p2)) : Int32) (fun v4_10 => itM (fun (v5_11 : Int32) (w13 : Wd) => if v5_11 < 4 then (cl (sh_251 o0 v3_9 v5_11 w13) (fun r16 w15 => if r16 = v4_10 then (some (.inr ((-1)), w15)) else (lt (v5_11 + 1 : Int32) (fun v5_18 => some (.inl v5_18, w15))))) else (itM (fun (v5_19 : Int32) (w21 : Wd) => if v5_19 < 144 then (gd (ib v5_19 144) (stI w21 (o0 + 19) (ix v5_19) 0 (fun w23 => lt (v5_19 + 1 : Int32) (fun v5_24 => some (.inl v5_24, w23))))) else (cl (sh_257 o0 v3_9 v4_10 w21) (fun r26 w25 => stI w25 o0 42 0 (fun w27 => itM (fun (s54 : Int32 × Int32) (w31 : Wd) => match s54 with | (v5_28, v6_29) => if v6_29 < 144 then (if 0 < v5_28 then (cl (sh_216 o0 v6_29 w31) (fun r35 w34 => if r35 = true then (gd (ib (25 + v6_29) 10265) (if wI w34 (o0 + 2) (ix (25 + v6_29)) = 1 then (lt (v6_29 + 1 : Int32) (fun v6_38 => some (.inl (v5_28, v6_38), w34))) else (if v6_29 = v3_9 then (lt (v6_29 + 1 : Int32) (fun v6_40 => some (.inl (v5_28, v6_40), w34))) else (if v6_29 = v4_10 then (lt (v6_29 + 1 : Int32) (fun v6_42 => some (.inl (v5_28, v6_42), w34))) else (gd (ib v6_29 144) (stI w34 (o0 + 19) (ix v6_29) 1 (fun w43 => cl (sh_257 o0 v3_9 v4_10 w43) (fun r45 w44 => if r45 < v5_28 then (lt (v5_28 + (-1) : Int32) (fun v5_47 => gd (ib (wI w44 o0 42) 144) (stI w44 (o0 + 18) (ix (wI w44 o0 42)) v6_29 (fun w48 => stI w48 o0 42 ((wI w48 o0 42) + 1) (fun w49 => lt (v6_29 + 1 : Int32) (fun v6_50 => some (.inl (v5_47, v6_50), w49))))))) else (gd (ib v6_29 144) (stI w44 (o0 + 19) (ix v6_29) 0 (fun w51 => lt (v6_29 + 1 : Int32) (fun v6_52 => some (.inl (v5_28, v6_52), w51))))))))))))) else (lt (v6_29 + 1 : Int32) (fun v6_53 => some (.inl (v5_28, v6_53), w34))))) else (some (.inr (.inr (.inr (wI w31 o0 42))), w31))) else (some (.inr (.inr (.inr (wI w31 o0 42))), w31))) FU (r26, 0) w27)))) FU 0 w13)) FU 0 w5)))))) else (some ((-1), w5))))) else (some ((-1), w2)))))
set_option maxRecDepth 20000 in
set_option maxHeartbeats 4000000 in
theorem ev_256 {d : Nat} (hd : 6 ≤ d) {o0 : Nat} {p1 : Int32} {p2 : Int32} {w : Wd} (hT : TY w) (ho0 : ist o0 10) : sp (sh_256 o0 p1 p2 w) (fun r w' => TY w' ∧ Ev d 256 [.ref o0, .int p1, .int p2] w (cvI r) w') := by
  obtain ⟨d, rfl⟩ : ∃ d', d = d' + 1 := ⟨d - 1, by omega⟩
  refine ev_of (M := M256) zin_256 rfl (by decide) rfl (Nat.le_of_ble_eq_true rfl) (Or.inr ⟨o0, _, rfl, ho0⟩) hT ?_
  show sp _ (PP (Ev d) M256 (KR cvI) (0, [(0, .ref o0), (1, .int p1), (2, .int p2)], [], w))
  unfold sh_256
  refine s_aload rfl rfl ?_
  refine s_const rfl ?_
  refine s_putI rfl hT ho0 rfl (fun w1 hT1 => ?_)
  refine s_iload rfl rfl ?_
  refine s_const rfl ?_
  refine s_aload rfl rfl ?_
  refine s_getF rfl hT1 ho0 rfl ?_
  refine s_const rfl ?_
  refine s_iald rfl hT1 (of_10_6 ho0) ?_
  refine s_const rfl ?_
  refine s_bin rfl rfl ?_
  refine s_callZ [.int p1, .int 0, .int ((wI w1 (o0 + 2) (ix 5)) - 1)] [] rfl rfl (Nat.le_of_ble_eq_true rfl) (ev_199 (d := d) (by omega) hT1 ) (fun r3 w2 hT2 => ?_)
  refine sp_ite (fun h4 => ?_) (fun h4 => ?_)
  · refine s_if0 rfl (zb_eq0 h4) ?_
    refine s_iload rfl rfl ?_
    refine s_const rfl ?_
    refine s_aload rfl rfl ?_
    refine s_getF rfl hT2 ho0 rfl ?_
    refine s_const rfl ?_
    refine s_iald rfl hT2 (of_10_6 ho0) ?_
    refine s_const rfl ?_
    refine s_bin rfl rfl ?_
    refine s_callZ [.int p2, .int 0, .int ((wI w2 (o0 + 2) (ix 5)) - 1)] [] rfl rfl (Nat.le_of_ble_eq_true rfl) (ev_199 (d := d) (by omega) hT2 ) (fun r6 w5 hT5 => ?_)
    refine sp_ite (fun h7 => ?_) (fun h7 => ?_)
    · refine s_if0 rfl (zb_eq0 h7) ?_
      refine s_iload rfl rfl ?_
      refine s_iload rfl rfl ?_
      refine sp_ite (fun h8 => ?_) (fun h8 => ?_)
      · refine s_ic0 rfl (zc_ne0 h8) ?_
        refine s_const rfl ?_
        exact s_retI rfl rfl hT5 (fun _ _ h => h)
      · refine s_ic1 rfl (zc_ne1 h8) ?_
        refine s_aload rfl rfl ?_
        refine s_getF rfl hT5 ho0 rfl ?_
        refine s_const rfl ?_
        refine s_iload rfl rfl ?_
        refine s_bin rfl rfl ?_
        refine s_iald rfl hT5 (of_10_6 ho0) ?_
        refine s_nmI (fun v3_9 => ?_)
        refine s_istoreF [(0, .ref o0), (2, .int p2), (3, .int v3_9)] rfl (subl_c rfl (subl_c rfl (subl_c rfl (subl_n)))) ?_
        refine s_aload rfl rfl ?_
        refine s_getF rfl hT5 ho0 rfl ?_
        refine s_const rfl ?_
        refine s_iload rfl rfl ?_
        refine s_bin rfl rfl ?_
        refine s_iald rfl hT5 (of_10_6 ho0) ?_
        refine s_nmI (fun v4_10 => ?_)
        refine s_istoreF [(0, .ref o0), (3, .int v3_9), (4, .int v4_10)] rfl (subl_c rfl (subl_c rfl (subl_c rfl (subl_n)))) ?_
        refine s_const rfl ?_
        refine s_istoreF [(0, .ref o0), (3, .int v3_9), (4, .int v4_10), (5, .int 0)] rfl (subl_c rfl (subl_c rfl (subl_c rfl (subl_c rfl (subl_n))))) ?_
        let lvL12 : Int32 → List (Nat × Value) := fun s56 => [(0, .ref o0), (3, .int v3_9), (4, .int v4_10), (5, .int s56)]
        refine s_loop lvL12 (subl_c rfl (subl_c rfl (subl_c rfl (subl_c rfl (subl_n))))) hT5 (fun v5_11 w13 hT13 => ?_)
        show sp _ (PP _ _ _ (70, [(0, .ref o0), (3, .int v3_9), (4, .int v4_10), (5, .int v5_11)], [], w13))
        refine s_iload rfl rfl ?_
        refine s_const rfl ?_
        refine sp_ite (fun h14 => ?_) (fun h14 => ?_)
        · refine s_ic0 rfl (zc_ge0 h14) ?_
          refine s_aload rfl rfl ?_
          refine s_iload rfl rfl ?_
          refine s_iload rfl rfl ?_
          refine s_callI [.ref o0, .int v3_9, .int v5_11] [] rfl rfl (Nat.le_of_ble_eq_true rfl) (ev_251 (d := d) (by omega) hT13 ho0) (fun r16 w15 hT15 => ?_)
          refine s_iload rfl rfl ?_
          refine sp_ite (fun h17 => ?_) (fun h17 => ?_)
          · refine s_ic0 rfl (zc_ne0 h17) ?_
            refine s_const rfl ?_
            exact s_retI rfl rfl hT15 (fun _ _ h => h)
          · refine s_ic1 rfl (zc_ne1 h17) ?_
            refine s_iincF (fun v5_18 => [(0, .ref o0), (3, .int v3_9), (4, .int v4_10), (5, .int v5_18)]) rfl rfl (fun _ => subl_c rfl (subl_c rfl (subl_c rfl (subl_c rfl (subl_n))))) (fun v5_18 => ?_)
            refine s_goto rfl ?_
            exact s_back (lvL := lvL12) (s' := v5_18) (subl_c rfl (subl_c rfl (subl_c rfl (subl_c rfl (subl_n))))) hT15 (fun _ _ h => h)
        · refine s_ic1 rfl (zc_ge1 h14) ?_
          refine s_const rfl ?_
          refine s_istoreF [(0, .ref o0), (3, .int v3_9), (4, .int v4_10), (5, .int 0)] rfl (subl_c rfl (subl_c rfl (subl_c rfl (subl_c rfl (subl_n))))) ?_
          let lvL20 : Int32 → List (Nat × Value) := fun s55 => [(0, .ref o0), (3, .int v3_9), (4, .int v4_10), (5, .int s55)]
          refine s_loop lvL20 (subl_c rfl (subl_c rfl (subl_c rfl (subl_c rfl (subl_n))))) hT13 (fun v5_19 w21 hT21 => ?_)
          show sp _ (PP _ _ _ (99, [(0, .ref o0), (3, .int v3_9), (4, .int v4_10), (5, .int v5_19)], [], w21))
          refine s_iload rfl rfl ?_
          refine s_const rfl ?_
          refine sp_ite (fun h22 => ?_) (fun h22 => ?_)
          · refine s_ic0 rfl (zc_ge0 h22) ?_
            refine s_aload rfl rfl ?_
            refine s_getF rfl hT21 ho0 rfl ?_
            refine s_iload rfl rfl ?_
            refine s_const rfl ?_
            refine s_zast rfl hT21 (of_10_41 ho0) rfl (fun w23 hT23 => ?_)
            refine s_iincF (fun v5_24 => [(0, .ref o0), (3, .int v3_9), (4, .int v4_10), (5, .int v5_24)]) rfl rfl (fun _ => subl_c rfl (subl_c rfl (subl_c rfl (subl_c rfl (subl_n))))) (fun v5_24 => ?_)
            refine s_goto rfl ?_
            exact s_back (lvL := lvL20) (s' := v5_24) (subl_c rfl (subl_c rfl (subl_c rfl (subl_c rfl (subl_n))))) hT23 (fun _ _ h => h)
          · refine s_ic1 rfl (zc_ge1 h22) ?_
            refine s_aload rfl rfl ?_
            refine s_iload rfl rfl ?_
            refine s_iload rfl rfl ?_
            refine s_callI [.ref o0, .int v3_9, .int v4_10] [] rfl rfl (Nat.le_of_ble_eq_true rfl) (ev_257 (d := d) (by omega) hT21 ho0) (fun r26 w25 hT25 => ?_)
            refine s_istoreF [(0, .ref o0), (3, .int v3_9), (4, .int v4_10), (5, .int r26)] rfl (subl_c rfl (subl_c rfl (subl_c rfl (subl_c rfl (subl_n))))) ?_
            refine s_aload rfl rfl ?_
            refine s_const rfl ?_
            refine s_putI rfl hT25 ho0 rfl (fun w27 hT27 => ?_)
            refine s_const rfl ?_
            refine s_istoreF [(0, .ref o0), (3, .int v3_9), (4, .int v4_10), (5, .int r26), (6, .int 0)] rfl (subl_c rfl (subl_c rfl (subl_c rfl (subl_c rfl (subl_c rfl (subl_n)))))) ?_
            let lvL30 : Int32 × Int32 → List (Nat × Value) := fun s54 => [(0, .ref o0), (3, .int v3_9), (4, .int v4_10), (5, .int (s54.1)), (6, .int (s54.2))]
            refine s_loop lvL30 (subl_c rfl (subl_c rfl (subl_c rfl (subl_c rfl (subl_c rfl (subl_n)))))) hT27 (fun s54 w31 hT31 => ?_)
            obtain ⟨v5_28, v6_29⟩ := s54
            show sp _ (PP _ _ _ (138, [(0, .ref o0), (3, .int v3_9), (4, .int v4_10), (5, .int v5_28), (6, .int v6_29)], [], w31))
            refine s_iload rfl rfl ?_
            refine s_const rfl ?_
            refine sp_ite (fun h32 => ?_) (fun h32 => ?_)
            · refine s_ic0 rfl (zc_ge0 h32) ?_
              refine s_iload rfl rfl ?_
              refine sp_ite (fun h33 => ?_) (fun h33 => ?_)
              · refine s_if0 rfl (zc_le0 h33) ?_
                refine s_aload rfl rfl ?_
                refine s_iload rfl rfl ?_
                refine s_callZ [.ref o0, .int v6_29] [] rfl rfl (Nat.le_of_ble_eq_true rfl) (ev_216 (d := d) (by omega) hT31 ho0) (fun r35 w34 hT34 => ?_)
                refine sp_ite (fun h36 => ?_) (fun h36 => ?_)
                · refine s_if0 rfl (zb_eq0 h36) ?_
                  refine s_aload rfl rfl ?_
                  refine s_getF rfl hT34 ho0 rfl ?_
                  refine s_const rfl ?_
                  refine s_iload rfl rfl ?_
                  refine s_bin rfl rfl ?_
                  refine s_iald rfl hT34 (of_10_6 ho0) ?_
                  refine s_const rfl ?_
                  refine sp_ite (fun h37 => ?_) (fun h37 => ?_)
                  · refine s_ic1 rfl (zc_eq1 h37) ?_
                    refine s_iincF (fun v6_38 => [(0, .ref o0), (3, .int v3_9), (4, .int v4_10), (5, .int v5_28), (6, .int v6_38)]) rfl rfl (fun _ => subl_c rfl (subl_c rfl (subl_c rfl (subl_c rfl (subl_c rfl (subl_n)))))) (fun v6_38 => ?_)
                    refine s_goto rfl ?_
                    exact s_back (lvL := lvL30) (s' := (v5_28, v6_38)) (subl_c rfl (subl_c rfl (subl_c rfl (subl_c rfl (subl_c rfl (subl_n)))))) hT34 (fun _ _ h => h)
                  · refine s_ic0 rfl (zc_eq0 h37) ?_
                    refine s_iload rfl rfl ?_
                    refine s_iload rfl rfl ?_
                    refine sp_ite (fun h39 => ?_) (fun h39 => ?_)
                    · refine s_ic1 rfl (zc_eq1 h39) ?_
                      refine s_iincF (fun v6_40 => [(0, .ref o0), (3, .int v3_9), (4, .int v4_10), (5, .int v5_28), (6, .int v6_40)]) rfl rfl (fun _ => subl_c rfl (subl_c rfl (subl_c rfl (subl_c rfl (subl_c rfl (subl_n)))))) (fun v6_40 => ?_)
                      refine s_goto rfl ?_
                      exact s_back (lvL := lvL30) (s' := (v5_28, v6_40)) (subl_c rfl (subl_c rfl (subl_c rfl (subl_c rfl (subl_c rfl (subl_n)))))) hT34 (fun _ _ h => h)
                    · refine s_ic0 rfl (zc_eq0 h39) ?_
                      refine s_iload rfl rfl ?_
                      refine s_iload rfl rfl ?_
                      refine sp_ite (fun h41 => ?_) (fun h41 => ?_)
                      · refine s_ic0 rfl (zc_ne0 h41) ?_
                        refine s_goto rfl ?_
                        refine s_iincF (fun v6_42 => [(0, .ref o0), (3, .int v3_9), (4, .int v4_10), (5, .int v5_28), (6, .int v6_42)]) rfl rfl (fun _ => subl_c rfl (subl_c rfl (subl_c rfl (subl_c rfl (subl_c rfl (subl_n)))))) (fun v6_42 => ?_)
                        refine s_goto rfl ?_
                        exact s_back (lvL := lvL30) (s' := (v5_28, v6_42)) (subl_c rfl (subl_c rfl (subl_c rfl (subl_c rfl (subl_c rfl (subl_n)))))) hT34 (fun _ _ h => h)
                      · refine s_ic1 rfl (zc_ne1 h41) ?_
                        refine s_aload rfl rfl ?_
                        refine s_getF rfl hT34 ho0 rfl ?_
                        refine s_iload rfl rfl ?_
                        refine s_const rfl ?_
                        refine s_zast rfl hT34 (of_10_41 ho0) rfl (fun w43 hT43 => ?_)
                        refine s_aload rfl rfl ?_
                        refine s_iload rfl rfl ?_
                        refine s_iload rfl rfl ?_
                        refine s_callI [.ref o0, .int v3_9, .int v4_10] [] rfl rfl (Nat.le_of_ble_eq_true rfl) (ev_257 (d := d) (by omega) hT43 ho0) (fun r45 w44 hT44 => ?_)
                        refine s_iload rfl rfl ?_
                        refine sp_ite (fun h46 => ?_) (fun h46 => ?_)
                        · refine s_ic0 rfl (zc_ge0 h46) ?_
                          refine s_iincF (fun v5_47 => [(0, .ref o0), (3, .int v3_9), (4, .int v4_10), (5, .int v5_47), (6, .int v6_29)]) rfl rfl (fun _ => subl_c rfl (subl_c rfl (subl_c rfl (subl_c rfl (subl_c rfl (subl_n)))))) (fun v5_47 => ?_)
                          refine s_aload rfl rfl ?_
                          refine s_getF rfl hT44 ho0 rfl ?_
                          refine s_aload rfl rfl ?_
                          refine s_getI rfl hT44 ho0 ?_
                          refine s_iload rfl rfl ?_
                          refine s_iast rfl hT44 (of_10_40 ho0) (fun w48 hT48 => ?_)
                          refine s_aload rfl rfl ?_
                          refine s_dup rfl rfl ?_
                          refine s_getI rfl hT48 ho0 ?_
                          refine s_const rfl ?_
                          refine s_bin rfl rfl ?_
                          refine s_putI rfl hT48 ho0 rfl (fun w49 hT49 => ?_)
                          refine s_goto rfl ?_
                          refine s_iincF (fun v6_50 => [(0, .ref o0), (3, .int v3_9), (4, .int v4_10), (5, .int v5_47), (6, .int v6_50)]) rfl rfl (fun _ => subl_c rfl (subl_c rfl (subl_c rfl (subl_c rfl (subl_c rfl (subl_n)))))) (fun v6_50 => ?_)
                          refine s_goto rfl ?_
                          exact s_back (lvL := lvL30) (s' := (v5_47, v6_50)) (subl_c rfl (subl_c rfl (subl_c rfl (subl_c rfl (subl_c rfl (subl_n)))))) hT49 (fun _ _ h => h)
                        · refine s_ic1 rfl (zc_ge1 h46) ?_
                          refine s_aload rfl rfl ?_
                          refine s_getF rfl hT44 ho0 rfl ?_
                          refine s_iload rfl rfl ?_
                          refine s_const rfl ?_
                          refine s_zast rfl hT44 (of_10_41 ho0) rfl (fun w51 hT51 => ?_)
                          refine s_iincF (fun v6_52 => [(0, .ref o0), (3, .int v3_9), (4, .int v4_10), (5, .int v5_28), (6, .int v6_52)]) rfl rfl (fun _ => subl_c rfl (subl_c rfl (subl_c rfl (subl_c rfl (subl_c rfl (subl_n)))))) (fun v6_52 => ?_)
                          refine s_goto rfl ?_
                          exact s_back (lvL := lvL30) (s' := (v5_28, v6_52)) (subl_c rfl (subl_c rfl (subl_c rfl (subl_c rfl (subl_c rfl (subl_n)))))) hT51 (fun _ _ h => h)
                · refine s_if1 rfl (zb_eq1 h36) ?_
                  refine s_iincF (fun v6_53 => [(0, .ref o0), (3, .int v3_9), (4, .int v4_10), (5, .int v5_28), (6, .int v6_53)]) rfl rfl (fun _ => subl_c rfl (subl_c rfl (subl_c rfl (subl_c rfl (subl_c rfl (subl_n)))))) (fun v6_53 => ?_)
                  refine s_goto rfl ?_
                  exact s_back (lvL := lvL30) (s' := (v5_28, v6_53)) (subl_c rfl (subl_c rfl (subl_c rfl (subl_c rfl (subl_c rfl (subl_n)))))) hT34 (fun _ _ h => h)
              · refine s_if1 rfl (zc_le1 h33) ?_
                refine s_aload rfl rfl ?_
                refine s_getI rfl hT31 ho0 ?_
                exact s_retI rfl rfl hT31 (fun _ _ h => h)
            · refine s_ic1 rfl (zc_ge1 h32) ?_
              refine s_aload rfl rfl ?_
              refine s_getI rfl hT31 ho0 ?_
              exact s_retI rfl rfl hT31 (fun _ _ h => h)
    · refine s_if1 rfl (zb_eq1 h7) ?_
      refine s_const rfl ?_
      exact s_retI rfl rfl hT5 (fun _ _ h => h)
  · refine s_if1 rfl (zb_eq1 h4) ?_
    refine s_const rfl ?_
    exact s_retI rfl rfl hT2 (fun _ _ h => h)
