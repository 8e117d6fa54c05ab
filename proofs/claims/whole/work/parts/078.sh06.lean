/-! printed by program (wip/whole/gen/sh.py): the methods as programs over worlds, and that the small machine does what they say -/
/-- RugReader.count(I)I -/
def sh_179 (o0 : Nat) (p1 : Int32) (w : Wd) : Option (Int32 × Wd) := swt p1 (fun i1 => if i1 = 0 then (der (wR w o0 2) (fun a4 => some (wI w a4 0, w))) else (if i1 = 1 then (der (wR w o0 2) (fun a5 => some (wI w a5 1, w))) else (if i1 = 2 then (der (wR w o0 2) (fun a6 => some (wI w a6 3, w))) else (if i1 = 3 then (der (wR w o0 2) (fun a7 => some (wI w a7 4, w))) else (if i1 = 4 then (der (wR w o0 2) (fun a8 => some (wI w a8 5, w))) else (if i1 = 5 then (der (wR w o0 2) (fun a9 => some (wI w a9 6, w))) else (if i1 = 6 then (der (wR w o0 2) (fun a10 => cl (sh_82 a10 w) (fun r12 w11 => some (r12, w11)))) else (if i1 = 7 then (some (wI w (o0 + 35) 0, w)) else (some (wI w (o0 + 1) 1, w)))))))))) (some ((-1), w)) 9
set_option maxRecDepth 20000 in
set_option maxHeartbeats 4000000 in
theorem ev_179 {d : Nat} (hd : 2 ≤ d) {o0 : Nat} {p1 : Int32} {w : Wd} (hT : TY w) (ho0 : ist o0 9) : sp (sh_179 o0 p1 w) (fun r w' => TY w' ∧ Ev d 179 [.ref o0, .int p1] w (cvI r) w') := by
  obtain ⟨d, rfl⟩ : ∃ d', d = d' + 1 := ⟨d - 1, by omega⟩
  refine ev_of (M := M179) zin_179 rfl (by decide) rfl (Nat.le_of_ble_eq_true rfl) (Or.inr ⟨o0, _, rfl, ho0⟩) hT ?_
  show sp _ (PP (Ev d) M179 (KR cvI) (0, [(0, .ref o0), (1, .int p1)], [], w))
  unfold sh_179
  refine s_iload rfl rfl ?_
  refine s_swt (fun i1 hi1 h2 h3 => ?_) (fun h13 => ?_)
  · refine sp_ite (fun e14 => ?_) (fun e14 => ?_)
    · refine s_sw rfl (zsw_in h2 (h3.trans e14) rfl (by decide) rfl) ?_
      refine s_aload rfl rfl ?_
      refine s_getD rfl hT ho0 (by decide) rfl (fun a4 ha4 => ?_)
      refine s_getI rfl hT ha4 ?_
      exact s_retI rfl rfl hT (fun _ _ h => h)
    · skip
      refine sp_ite (fun e15 => ?_) (fun e15 => ?_)
      · refine s_sw rfl (zsw_in h2 (h3.trans e15) rfl (by decide) rfl) ?_
        refine s_aload rfl rfl ?_
        refine s_getD rfl hT ho0 (by decide) rfl (fun a5 ha5 => ?_)
        refine s_getI rfl hT ha5 ?_
        exact s_retI rfl rfl hT (fun _ _ h => h)
      · skip
        refine sp_ite (fun e16 => ?_) (fun e16 => ?_)
        · refine s_sw rfl (zsw_in h2 (h3.trans e16) rfl (by decide) rfl) ?_
          refine s_aload rfl rfl ?_
          refine s_getD rfl hT ho0 (by decide) rfl (fun a6 ha6 => ?_)
          refine s_getI rfl hT ha6 ?_
          exact s_retI rfl rfl hT (fun _ _ h => h)
        · skip
          refine sp_ite (fun e17 => ?_) (fun e17 => ?_)
          · refine s_sw rfl (zsw_in h2 (h3.trans e17) rfl (by decide) rfl) ?_
            refine s_aload rfl rfl ?_
            refine s_getD rfl hT ho0 (by decide) rfl (fun a7 ha7 => ?_)
            refine s_getI rfl hT ha7 ?_
            exact s_retI rfl rfl hT (fun _ _ h => h)
          · skip
            refine sp_ite (fun e18 => ?_) (fun e18 => ?_)
            · refine s_sw rfl (zsw_in h2 (h3.trans e18) rfl (by decide) rfl) ?_
              refine s_aload rfl rfl ?_
              refine s_getD rfl hT ho0 (by decide) rfl (fun a8 ha8 => ?_)
              refine s_getI rfl hT ha8 ?_
              exact s_retI rfl rfl hT (fun _ _ h => h)
            · skip
              refine sp_ite (fun e19 => ?_) (fun e19 => ?_)
              · refine s_sw rfl (zsw_in h2 (h3.trans e19) rfl (by decide) rfl) ?_
                refine s_aload rfl rfl ?_
                refine s_getD rfl hT ho0 (by decide) rfl (fun a9 ha9 => ?_)
                refine s_getI rfl hT ha9 ?_
                exact s_retI rfl rfl hT (fun _ _ h => h)
              · skip
                refine sp_ite (fun e20 => ?_) (fun e20 => ?_)
                · refine s_sw rfl (zsw_in h2 (h3.trans e20) rfl (by decide) rfl) ?_
                  refine s_aload rfl rfl ?_
                  refine s_getD rfl hT ho0 (by decide) rfl (fun a10 ha10 => ?_)
                  refine s_callI [.ref a10] [] rfl rfl (Nat.le_of_ble_eq_true rfl) (ev_82 (d := d) (by omega) hT ha10) (fun r12 w11 hT11 => ?_)
                  exact s_retI rfl rfl hT11 (fun _ _ h => h)
                · skip
                  refine sp_ite (fun e21 => ?_) (fun e21 => ?_)
                  · refine s_sw rfl (zsw_in h2 (h3.trans e21) rfl (by decide) rfl) ?_
                    refine s_aload rfl rfl ?_
                    refine s_getF rfl hT ho0 rfl ?_
                    refine s_getI rfl hT (of_9_6 ho0) ?_
                    exact s_retI rfl rfl hT (fun _ _ h => h)
                  · skip
                    have e22 : i1 = 8 := by omega
                    refine s_sw rfl (zsw_in h2 (h3.trans e22) rfl (by decide) rfl) ?_
                    refine s_aload rfl rfl ?_
                    refine s_getF rfl hT ho0 rfl ?_
                    refine s_getI rfl hT (of_9_0 ho0) ?_
                    exact s_retI rfl rfl hT (fun _ _ h => h)
  · refine s_sw rfl (zsw_out h13 rfl rfl) ?_
    refine s_const rfl ?_
    exact s_retI rfl rfl hT (fun _ _ h => h)
/-- RugReaderModel.thrown()I -/
def sh_184 (o0 : Nat) (w : Wd) : Option (Int32 × Wd) := some (wI w o0 0, w)
set_option maxRecDepth 20000 in
set_option maxHeartbeats 4000000 in
theorem ev_184 {d : Nat} (hd : 1 ≤ d) {o0 : Nat} {w : Wd} (hT : TY w) (ho0 : ist o0 10) : sp (sh_184 o0 w) (fun r w' => TY w' ∧ Ev d 184 [.ref o0] w (cvI r) w') := by
  obtain ⟨d, rfl⟩ : ∃ d', d = d' + 1 := ⟨d - 1, by omega⟩
  refine ev_of (M := M184) zin_184 rfl (by decide) rfl (Nat.le_of_ble_eq_true rfl) (Or.inr ⟨o0, _, rfl, ho0⟩) hT ?_
  show sp _ (PP (Ev d) M184 (KR cvI) (0, [(0, .ref o0)], [], w))
  unfold sh_184
  refine s_aload rfl rfl ?_
  refine s_getI rfl hT ho0 ?_
  exact s_retI rfl rfl hT (fun _ _ h => h)
/-- RugReaderModel.four(I)V -/
def sh_186 (o0 : Nat) (p1 : Int32) (w : Wd) : Option (Unit × Wd) := itM (fun (v2_1 : Int32) (w3 : Wd) => if 0 ≤ v2_1 then (gd (ib (wI w3 o0 2) 940) (stI w3 (o0 + 1) (ix (wI w3 o0 2)) (vp_nar .byte ((p1 >>> (v2_1 &&& 31)).toInt8.toInt32)) (fun w5 => stI w5 o0 2 ((wI w5 o0 2) + 1) (fun w6 => lt (v2_1 + (-8) : Int32) (fun v2_7 => some (.inl v2_7, w6)))))) else (some (.inr (()), w3))) FU 24 w
set_option maxRecDepth 20000 in
set_option maxHeartbeats 4000000 in
theorem ev_186 {d : Nat} (hd : 1 ≤ d) {o0 : Nat} {p1 : Int32} {w : Wd} (hT : TY w) (ho0 : ist o0 10) : sp (sh_186 o0 p1 w) (fun r w' => TY w' ∧ Ev d 186 [.ref o0, .int p1] w (cvV r) w') := by
  obtain ⟨d, rfl⟩ : ∃ d', d = d' + 1 := ⟨d - 1, by omega⟩
  refine ev_of (M := M186) zin_186 rfl (by decide) rfl (Nat.le_of_ble_eq_true rfl) (Or.inr ⟨o0, _, rfl, ho0⟩) hT ?_
  show sp _ (PP (Ev d) M186 (KR cvV) (0, [(0, .ref o0), (1, .int p1)], [], w))
  unfold sh_186
  refine s_const rfl ?_
  refine s_istoreF [(0, .ref o0), (1, .int p1), (2, .int 24)] rfl (subl_c rfl (subl_c rfl (subl_c rfl (subl_n)))) ?_
  let lvL2 : Int32 → List (Nat × Value) := fun s8 => [(0, .ref o0), (1, .int p1), (2, .int s8)]
  refine s_loop lvL2 (subl_c rfl (subl_c rfl (subl_c rfl (subl_n)))) hT (fun v2_1 w3 hT3 => ?_)
  show sp _ (PP _ _ _ (3, [(0, .ref o0), (1, .int p1), (2, .int v2_1)], [], w3))
  refine s_iload rfl rfl ?_
  refine sp_ite (fun h4 => ?_) (fun h4 => ?_)
  · refine s_if0 rfl (zc_lt0 h4) ?_
    refine s_aload rfl rfl ?_
    refine s_getF rfl hT3 ho0 rfl ?_
    refine s_aload rfl rfl ?_
    refine s_getI rfl hT3 ho0 ?_
    refine s_iload rfl rfl ?_
    refine s_iload rfl rfl ?_
    refine s_bin rfl rfl ?_
    refine s_i2b rfl ?_
    refine s_bast rfl hT3 (of_10_1 ho0) rfl (fun w5 hT5 => ?_)
    refine s_aload rfl rfl ?_
    refine s_dup rfl rfl ?_
    refine s_getI rfl hT5 ho0 ?_
    refine s_const rfl ?_
    refine s_bin rfl rfl ?_
    refine s_putI rfl hT5 ho0 rfl (fun w6 hT6 => ?_)
    refine s_iincF (fun v2_7 => [(0, .ref o0), (1, .int p1), (2, .int v2_7)]) rfl rfl (fun _ => subl_c rfl (subl_c rfl (subl_c rfl (subl_n)))) (fun v2_7 => ?_)
    refine s_goto rfl ?_
    exact s_back (lvL := lvL2) (s' := v2_7) (subl_c rfl (subl_c rfl (subl_c rfl (subl_n)))) hT6 (fun _ _ h => h)
  · refine s_if1 rfl (zc_lt1 h4) ?_
    exact s_retV rfl rfl hT3 (fun _ _ h => h)
/-- RugReaderModel.feed(IIIII)I -/
def sh_185 (o0 : Nat) (p1 : Int32) (p2 : Int32) (p3 : Int32) (p4 : Int32) (p5 : Int32) (w : Wd) : Option (Int32 × Wd) := stI w o0 0 0 (fun w1 => if 940 < (wI w1 o0 2) + 20 then (some ((-1), w1)) else (cl (sh_186 o0 p1 w1) (fun _ w3 => cl (sh_186 o0 p2 w3) (fun _ w5 => cl (sh_186 o0 p3 w5) (fun _ w7 => cl (sh_186 o0 p4 w7) (fun _ w9 => cl (sh_186 o0 p5 w9) (fun _ w11 => some (wI w11 o0 2, w11))))))))
set_option maxRecDepth 20000 in
set_option maxHeartbeats 4000000 in
theorem ev_185 {d : Nat} (hd : 2 ≤ d) {o0 : Nat} {p1 : Int32} {p2 : Int32} {p3 : Int32} {p4 : Int32} {p5 : Int32} {w : Wd} (hT : TY w) (ho0 : ist o0 10) : sp (sh_185 o0 p1 p2 p3 p4 p5 w) (fun r w' => TY w' ∧ Ev d 185 [.ref o0, .int p1, .int p2, .int p3, .int p4, .int p5] w (cvI r) w') := by
  obtain ⟨d, rfl⟩ : ∃ d', d = d' + 1 := ⟨d - 1, by omega⟩
  refine ev_of (M := M185) zin_185 rfl (by decide) rfl (Nat.le_of_ble_eq_true rfl) (Or.inr ⟨o0, _, rfl, ho0⟩) hT ?_
  show sp _ (PP (Ev d) M185 (KR cvI) (0, [(0, .ref o0), (1, .int p1), (2, .int p2), (3, .int p3), (4, .int p4), (5, .int p5)], [], w))
  unfold sh_185
  refine s_aload rfl rfl ?_
  refine s_const rfl ?_
  refine s_putI rfl hT ho0 rfl (fun w1 hT1 => ?_)
  refine s_aload rfl rfl ?_
  refine s_getI rfl hT1 ho0 ?_
  refine s_const rfl ?_
  refine s_bin rfl rfl ?_
  refine s_const rfl ?_
  refine sp_ite (fun h2 => ?_) (fun h2 => ?_)
  · refine s_ic0 rfl (zc_le0 h2) ?_
    refine s_const rfl ?_
    exact s_retI rfl rfl hT1 (fun _ _ h => h)
  · refine s_ic1 rfl (zc_le1 h2) ?_
    refine s_aload rfl rfl ?_
    refine s_iload rfl rfl ?_
    refine s_callV [.ref o0, .int p1] [] rfl rfl (Nat.le_of_ble_eq_true rfl) (ev_186 (d := d) (by omega) hT1 ho0) (fun _ w3 hT3 => ?_)
    refine s_aload rfl rfl ?_
    refine s_iload rfl rfl ?_
    refine s_callV [.ref o0, .int p2] [] rfl rfl (Nat.le_of_ble_eq_true rfl) (ev_186 (d := d) (by omega) hT3 ho0) (fun _ w5 hT5 => ?_)
    refine s_aload rfl rfl ?_
    refine s_iload rfl rfl ?_
    refine s_callV [.ref o0, .int p3] [] rfl rfl (Nat.le_of_ble_eq_true rfl) (ev_186 (d := d) (by omega) hT5 ho0) (fun _ w7 hT7 => ?_)
    refine s_aload rfl rfl ?_
    refine s_iload rfl rfl ?_
    refine s_callV [.ref o0, .int p4] [] rfl rfl (Nat.le_of_ble_eq_true rfl) (ev_186 (d := d) (by omega) hT7 ho0) (fun _ w9 hT9 => ?_)
    refine s_aload rfl rfl ?_
    refine s_iload rfl rfl ?_
    refine s_callV [.ref o0, .int p5] [] rfl rfl (Nat.le_of_ble_eq_true rfl) (ev_186 (d := d) (by omega) hT9 ho0) (fun _ w11 hT11 => ?_)
    refine s_aload rfl rfl ?_
    refine s_getI rfl hT11 ho0 ?_
    exact s_retI rfl rfl hT11 (fun _ _ h => h)
/-- RugReaderModel.end(I)Z -/
def sh_187 (o0 : Nat) (p1 : Int32) (w : Wd) : Option (Bool × Wd) := stI w o0 0 0 (fun w1 => if 0 ≤ p1 then (if wI w1 o0 2 < p1 then (some (false, w1)) else (stI w1 o0 2 p1 (fun w4 => some (true, w4)))) else (some (false, w1)))
set_option maxRecDepth 20000 in
set_option maxHeartbeats 4000000 in
theorem ev_187 {d : Nat} (hd : 1 ≤ d) {o0 : Nat} {p1 : Int32} {w : Wd} (hT : TY w) (ho0 : ist o0 10) : sp (sh_187 o0 p1 w) (fun r w' => TY w' ∧ Ev d 187 [.ref o0, .int p1] w (cvZ r) w') := by
  obtain ⟨d, rfl⟩ : ∃ d', d = d' + 1 := ⟨d - 1, by omega⟩
  refine ev_of (M := M187) zin_187 rfl (by decide) rfl (Nat.le_of_ble_eq_true rfl) (Or.inr ⟨o0, _, rfl, ho0⟩) hT ?_
  show sp _ (PP (Ev d) M187 (KR cvZ) (0, [(0, .ref o0), (1, .int p1)], [], w))
  unfold sh_187
  refine s_aload rfl rfl ?_
  refine s_const rfl ?_
  refine s_putI rfl hT ho0 rfl (fun w1 hT1 => ?_)
  refine s_iload rfl rfl ?_
  refine sp_ite (fun h2 => ?_) (fun h2 => ?_)
  · refine s_if0 rfl (zc_lt0 h2) ?_
    refine s_iload rfl rfl ?_
    refine s_aload rfl rfl ?_
    refine s_getI rfl hT1 ho0 ?_
    refine sp_ite (fun h3 => ?_) (fun h3 => ?_)
    · refine s_ic0 rfl (zc_le0 h3) ?_
      refine s_const rfl ?_
      exact s_retZ (z := false) rfl rfl hT1 (fun _ _ h => h)
    · refine s_ic1 rfl (zc_le1 h3) ?_
      refine s_aload rfl rfl ?_
      refine s_iload rfl rfl ?_
      refine s_putI rfl hT1 ho0 rfl (fun w4 hT4 => ?_)
      refine s_const rfl ?_
      exact s_retZ (z := true) rfl rfl hT4 (fun _ _ h => h)
  · refine s_if1 rfl (zc_lt1 h2) ?_
    refine s_const rfl ?_
    exact s_retZ (z := false) rfl rfl hT1 (fun _ _ h => h)
/-- RugReaderModel.taken(I)V -/
def sh_190 (o0 : Nat) (p1 : Int32) (w : Wd) : Option (Unit × Wd) := stI w o0 3 (wI w o0 2) (fun w1 => stI w1 o0 2 0 (fun w2 => stI w2 o0 4 0 (fun w3 => stI w3 o0 5 p1 (fun w4 => some ((), w4)))))
set_option maxRecDepth 20000 in
set_option maxHeartbeats 4000000 in
theorem ev_190 {d : Nat} (hd : 1 ≤ d) {o0 : Nat} {p1 : Int32} {w : Wd} (hT : TY w) (ho0 : ist o0 10) : sp (sh_190 o0 p1 w) (fun r w' => TY w' ∧ Ev d 190 [.ref o0, .int p1] w (cvV r) w') := by
  obtain ⟨d, rfl⟩ : ∃ d', d = d' + 1 := ⟨d - 1, by omega⟩
  refine ev_of (M := M190) zin_190 rfl (by decide) rfl (Nat.le_of_ble_eq_true rfl) (Or.inr ⟨o0, _, rfl, ho0⟩) hT ?_
  show sp _ (PP (Ev d) M190 (KR cvV) (0, [(0, .ref o0), (1, .int p1)], [], w))
  unfold sh_190
  refine s_aload rfl rfl ?_
  refine s_aload rfl rfl ?_
  refine s_getI rfl hT ho0 ?_
  refine s_putI rfl hT ho0 rfl (fun w1 hT1 => ?_)
  refine s_aload rfl rfl ?_
  refine s_const rfl ?_
  refine s_putI rfl hT1 ho0 rfl (fun w2 hT2 => ?_)
  refine s_aload rfl rfl ?_
  refine s_const rfl ?_
  refine s_putI rfl hT2 ho0 rfl (fun w3 hT3 => ?_)
  refine s_aload rfl rfl ?_
  refine s_iload rfl rfl ?_
  refine s_putI rfl hT3 ho0 rfl (fun w4 hT4 => ?_)
  exact s_retV rfl rfl hT4 (fun _ _ h => h)
/-- RugReaderModel.peek()I -/
def sh_192 (o0 : Nat) (w : Wd) : Option (Int32 × Wd) := if wI w o0 4 < wI w o0 3 then (gd (ib (wI w o0 4) 940) (some ((wI w (o0 + 1) (ix (wI w o0 4))) &&& 255, w))) else (some ((-1), w))
set_option maxRecDepth 20000 in
set_option maxHeartbeats 4000000 in
theorem ev_192 {d : Nat} (hd : 1 ≤ d) {o0 : Nat} {w : Wd} (hT : TY w) (ho0 : ist o0 10) : sp (sh_192 o0 w) (fun r w' => TY w' ∧ Ev d 192 [.ref o0] w (cvI r) w') := by
  obtain ⟨d, rfl⟩ : ∃ d', d = d' + 1 := ⟨d - 1, by omega⟩
  refine ev_of (M := M192) zin_192 rfl (by decide) rfl (Nat.le_of_ble_eq_true rfl) (Or.inr ⟨o0, _, rfl, ho0⟩) hT ?_
  show sp _ (PP (Ev d) M192 (KR cvI) (0, [(0, .ref o0)], [], w))
  unfold sh_192
  refine s_aload rfl rfl ?_
  refine s_getI rfl hT ho0 ?_
  refine s_aload rfl rfl ?_
  refine s_getI rfl hT ho0 ?_
  refine sp_ite (fun h1 => ?_) (fun h1 => ?_)
  · refine s_ic0 rfl (zc_ge0 h1) ?_
    refine s_aload rfl rfl ?_
    refine s_getF rfl hT ho0 rfl ?_
    refine s_aload rfl rfl ?_
    refine s_getI rfl hT ho0 ?_
    refine s_bald rfl hT (of_10_1 ho0) (Or.inl rfl) ?_
    refine s_const rfl ?_
    refine s_bin rfl rfl ?_
    refine s_goto rfl ?_
    exact s_retI rfl rfl hT (fun _ _ h => h)
  · refine s_ic1 rfl (zc_ge1 h1) ?_
    refine s_const rfl ?_
    exact s_retI rfl rfl hT (fun _ _ h => h)
/-- RugReaderModel.isSmall(I)Z -/
def sh_193 (p0 : Int32) (w : Wd) : Option (Bool × Wd) := lt (if 97 ≤ p0 then (if p0 ≤ 122 then true else false) else false : Bool) (fun z1 => some (z1, w))
set_option maxRecDepth 20000 in
set_option maxHeartbeats 4000000 in
theorem ev_193 {d : Nat} (hd : 1 ≤ d) {p0 : Int32} {w : Wd} (hT : TY w)  : sp (sh_193 p0 w) (fun r w' => TY w' ∧ Ev d 193 [.int p0] w (cvZ r) w') := by
  obtain ⟨d, rfl⟩ : ∃ d', d = d' + 1 := ⟨d - 1, by omega⟩
  refine ev_of (M := M193) zin_193 rfl (by decide) rfl (Nat.le_of_ble_eq_true rfl) (Or.inl rfl) hT ?_
  show sp _ (PP (Ev d) M193 (KR cvZ) (0, [(0, .int p0)], [], w))
  unfold sh_193
  refine s_iload rfl rfl ?_
  refine s_const rfl ?_
  refine sp_lt (fun z1 hz1 => ?_)
  refine s_dia (17, [(0, .int p0)], [.int (bi z1)], w) ?_ (fun hk2 => ?_)
  · exact s_retZ (z := z1) rfl rfl hT (fun _ _ h => h)
  · by_cases h3 : 97 ≤ p0
    · refine s_ic0 rfl (zc_lt0 h3) ?_
      refine s_iload rfl rfl ?_
      refine s_const rfl ?_
      by_cases h4 : p0 ≤ 122
      · refine s_ic0 rfl (zc_gt0 h4) ?_
        refine s_const rfl ?_
        refine s_goto rfl ?_
        refine s_cong ?_ hk2
        (rw [hz1, if_pos h3, if_pos h4]; rfl)
      · refine s_ic1 rfl (zc_gt1 h4) ?_
        refine s_const rfl ?_
        refine s_cong ?_ hk2
        (rw [hz1, if_pos h3, if_neg h4]; rfl)
    · refine s_ic1 rfl (zc_lt1 h3) ?_
      refine s_const rfl ?_
      refine s_cong ?_ hk2
      (rw [hz1, if_neg h3]; rfl)
/-- RugReaderModel.isDigit(I)Z -/
def sh_194 (p0 : Int32) (w : Wd) : Option (Bool × Wd) := lt (if 48 ≤ p0 then (if p0 ≤ 57 then true else false) else false : Bool) (fun z1 => some (z1, w))
set_option maxRecDepth 20000 in
set_option maxHeartbeats 4000000 in
theorem ev_194 {d : Nat} (hd : 1 ≤ d) {p0 : Int32} {w : Wd} (hT : TY w)  : sp (sh_194 p0 w) (fun r w' => TY w' ∧ Ev d 194 [.int p0] w (cvZ r) w') := by
  obtain ⟨d, rfl⟩ : ∃ d', d = d' + 1 := ⟨d - 1, by omega⟩
  refine ev_of (M := M194) zin_194 rfl (by decide) rfl (Nat.le_of_ble_eq_true rfl) (Or.inl rfl) hT ?_
  show sp _ (PP (Ev d) M194 (KR cvZ) (0, [(0, .int p0)], [], w))
  unfold sh_194
  refine s_iload rfl rfl ?_
  refine s_const rfl ?_
  refine sp_lt (fun z1 hz1 => ?_)
  refine s_dia (17, [(0, .int p0)], [.int (bi z1)], w) ?_ (fun hk2 => ?_)
  · exact s_retZ (z := z1) rfl rfl hT (fun _ _ h => h)
  · by_cases h3 : 48 ≤ p0
    · refine s_ic0 rfl (zc_lt0 h3) ?_
      refine s_iload rfl rfl ?_
      refine s_const rfl ?_
      by_cases h4 : p0 ≤ 57
      · refine s_ic0 rfl (zc_gt0 h4) ?_
        refine s_const rfl ?_
        refine s_goto rfl ?_
        refine s_cong ?_ hk2
        (rw [hz1, if_pos h3, if_pos h4]; rfl)
      · refine s_ic1 rfl (zc_gt1 h4) ?_
        refine s_const rfl ?_
        refine s_cong ?_ hk2
        (rw [hz1, if_pos h3, if_neg h4]; rfl)
    · refine s_ic1 rfl (zc_lt1 h3) ?_
      refine s_const rfl ?_
      refine s_cong ?_ hk2
      (rw [hz1, if_neg h3]; rfl)
/-- RugReaderModel.next()V -/
def sh_191 (o0 : Nat) (w : Wd) : Option (Unit × Wd) := itM (fun (s101 : Unit) (w2 : Wd) => cl (sh_192 o0 w2) (fun r4 w3 => if r4 = 32 then (stI w3 o0 4 ((wI w3 o0 4) + 1) (fun w6 => some (.inl (), w6))) else (cl (sh_192 o0 w3) (fun r8 w7 => if r8 = 10 then (stI w7 o0 4 ((wI w7 o0 4) + 1) (fun w10 => some (.inl (), w10))) else (stI w7 o0 12 (wI w7 o0 4) (fun w11 => stI w11 o0 13 0 (fun w12 => jn (fun (s100 : Unit) (w14 : Wd) => cl (sh_192 o0 w14) (fun r16 w15 => if r16 < 0 then (stI w15 o0 11 0 (fun w18 => some (.inr (()), w18))) else (cl (sh_193 r16 w15) (fun r20 w19 => jn (fun (s95 : Unit) (w22 : Wd) => cl (sh_193 r16 w22) (fun r24 w23 => stL w23 o0 17 0 (fun w25 => stI w25 o0 14 0 (fun w26 => itM (fun (v3_27 : Int32) (w29 : Wd) => cl (sh_192 o0 w29) (fun r31 w30 => cl (sh_193 r31 w30) (fun r33 w32 => jn (fun (s79 : Unit) (w35 : Wd) => jn (fun (t37 : Bool) (w38 : Wd) => jn (fun (s53 : Unit) (w40 : Wd) => if wI w40 o0 13 < 3 then (cl (sh_192 o0 w40) (fun r43 w42 => stI w42 o0 14 (((10 * (wI w40 o0 14)) + r43) - 48) (fun w44 => stI w44 o0 13 ((wI w44 o0 13) + 1) (fun w45 => stI w45 o0 4 ((wI w45 o0 4) + 1) (fun w46 => some (.inl (bi t37), w46)))))) else (stI w40 o0 13 ((wI w40 o0 13) + 1) (fun w47 => stI w47 o0 4 ((wI w47 o0 4) + 1) (fun w48 => some (.inl (bi t37), w48))))) (fun j39 => if wI w38 o0 13 < 7 then (cl (sh_192 o0 w38) (fun r51 w50 => stL w50 o0 17 (((wL w38 o0 17) <<< ((8 : Int32).toInt64 &&& 63)) ||| (r51.toInt64)) (fun w52 => j39 () w52))) else (j39 () w38))) (fun j36 => jn (fun (s62 : Unit) (w55 : Wd) => j36 false w55) (fun j54 => if v3_27 = 0 then (j54 () w35) else (cl (sh_192 o0 w35) (fun r58 w57 => cl (sh_193 r58 w57) (fun r60 w59 => if bi r60 = bi r24 then (j36 true w59) else (j54 () w59))))))) (fun j34 => if r33 = true then (j34 () w32) else (cl (sh_192 o0 w32) (fun r66 w65 => cl (sh_194 r66 w65) (fun r68 w67 => if r68 = true then (j34 () w67) else (lt (if v3_27 = 0 then 4 else (if r24 = true then if 7 < wI w67 o0 13 then 4 else (if r24 = true then 1 else 2) else if 3 < wI w67 o0 13 then 4 else (if r24 = true then 1 else 2)) : Int32) (fun z70 => stI w67 o0 11 z70 (fun w71 => some (.inr (.inr (())), w71))))))))))) FU 1 w26)))) (fun j21 => if r20 = true then (j21 () w19) else (cl (sh_194 r16 w19) (fun r83 w82 => if r83 = true then (j21 () w82) else (lt (if r16 = 59 then 3 else if r16 = 40 then 3 else if r16 = 41 then 3 else (if 60 ≤ r16 then (if r16 ≤ 62 then 3 else 4) else 4) : Int32) (fun z85 => stI w82 o0 11 z85 (fun w86 => stI w86 o0 14 r16 (fun w87 => stI w87 o0 4 ((wI w87 o0 4) + 1) (fun w88 => some (.inr (()), w88))))))))))))) (fun j13 => if wI w12 o0 5 < wI w12 o0 3 then (if wI w12 o0 5 ≤ wI w12 o0 4 then (stI w12 o0 12 (wI w12 o0 5) (fun w98 => stI w98 o0 11 4 (fun w99 => some (.inr (()), w99)))) else (j13 () w12)) else (j13 () w12))))))))) FU () w
set_option maxRecDepth 20000 in
set_option maxHeartbeats 4000000 in
theorem ev_191 {d : Nat} (hd : 2 ≤ d) {o0 : Nat} {w : Wd} (hT : TY w) (ho0 : ist o0 10) : sp (sh_191 o0 w) (fun r w' => TY w' ∧ Ev d 191 [.ref o0] w (cvV r) w') := by
  obtain ⟨d, rfl⟩ : ∃ d', d = d' + 1 := ⟨d - 1, by omega⟩
  refine ev_of (M := M191) zin_191 rfl (by decide) rfl (Nat.le_of_ble_eq_true rfl) (Or.inr ⟨o0, _, rfl, ho0⟩) hT ?_
  show sp _ (PP (Ev d) M191 (KR cvV) (0, [(0, .ref o0)], [], w))
  unfold sh_191
  let lvL1 : Unit → List (Nat × Value) := fun s101 => [(0, .ref o0)]
  refine s_loop lvL1 (subl_c rfl (subl_n)) hT (fun s101 w2 hT2 => ?_)
  show sp _ (PP _ _ _ (0, [(0, .ref o0)], [], w2))
  refine s_aload rfl rfl ?_
  refine s_callI [.ref o0] [] rfl rfl (Nat.le_of_ble_eq_true rfl) (ev_192 (d := d) (by omega) hT2 ho0) (fun r4 w3 hT3 => ?_)
  refine s_const rfl ?_
  refine sp_ite (fun h5 => ?_) (fun h5 => ?_)
  · refine s_ic1 rfl (zc_eq1 h5) ?_
    refine s_aload rfl rfl ?_
    refine s_dup rfl rfl ?_
    refine s_getI rfl hT3 ho0 ?_
    refine s_const rfl ?_
    refine s_bin rfl rfl ?_
    refine s_putI rfl hT3 ho0 rfl (fun w6 hT6 => ?_)
    refine s_goto rfl ?_
    exact s_back (lvL := lvL1) (s' := ()) (subl_c rfl (subl_n)) hT6 (fun _ _ h => h)
  · refine s_ic0 rfl (zc_eq0 h5) ?_
    refine s_aload rfl rfl ?_
    refine s_callI [.ref o0] [] rfl rfl (Nat.le_of_ble_eq_true rfl) (ev_192 (d := d) (by omega) hT3 ho0) (fun r8 w7 hT7 => ?_)
    refine s_const rfl ?_
    refine sp_ite (fun h9 => ?_) (fun h9 => ?_)
    · refine s_ic0 rfl (zc_ne0 h9) ?_
      refine s_aload rfl rfl ?_
      refine s_dup rfl rfl ?_
      refine s_getI rfl hT7 ho0 ?_
      refine s_const rfl ?_
      refine s_bin rfl rfl ?_
      refine s_putI rfl hT7 ho0 rfl (fun w10 hT10 => ?_)
      refine s_goto rfl ?_
      exact s_back (lvL := lvL1) (s' := ()) (subl_c rfl (subl_n)) hT10 (fun _ _ h => h)
    · refine s_ic1 rfl (zc_ne1 h9) ?_
      refine s_aload rfl rfl ?_
      refine s_aload rfl rfl ?_
      refine s_getI rfl hT7 ho0 ?_
      refine s_putI rfl hT7 ho0 rfl (fun w11 hT11 => ?_)
      refine s_aload rfl rfl ?_
      refine s_const rfl ?_
      refine s_putI rfl hT11 ho0 rfl (fun w12 hT12 => ?_)
      refine s_aload rfl rfl ?_
      refine s_getI rfl hT12 ho0 ?_
      refine s_aload rfl rfl ?_
      refine s_getI rfl hT12 ho0 ?_
      refine s_jnP (fun (s100 : Unit) w => (80, [(0, .ref o0)], [], w)) (fun s100 w14 hT14 => ?_) (fun j13 hj13 => ?_)
      · show sp _ (PP _ _ _ (80, [(0, .ref o0)], [], w14))
        refine s_aload rfl rfl ?_
        refine s_callI [.ref o0] [] rfl rfl (Nat.le_of_ble_eq_true rfl) (ev_192 (d := d) (by omega) hT14 ho0) (fun r16 w15 hT15 => ?_)
        refine s_istoreF [(0, .ref o0), (1, .int r16)] rfl (subl_c rfl (subl_c rfl (subl_n))) ?_
        refine s_iload rfl rfl ?_
        refine sp_ite (fun h17 => ?_) (fun h17 => ?_)
        · refine s_if0 rfl (zc_ge0 h17) ?_
          refine s_aload rfl rfl ?_
          refine s_const rfl ?_
          refine s_putI rfl hT15 ho0 rfl (fun w18 hT18 => ?_)
          exact s_retV rfl rfl hT18 (fun _ _ h => h)
        · refine s_if1 rfl (zc_ge1 h17) ?_
          refine s_iload rfl rfl ?_
          refine s_callZ [.int r16] [] rfl rfl (Nat.le_of_ble_eq_true rfl) (ev_193 (d := d) (by omega) hT15 ) (fun r20 w19 hT19 => ?_)
          refine s_jnP (fun (s95 : Unit) w => (164, [(0, .ref o0), (1, .int r16)], [], w)) (fun s95 w22 hT22 => ?_) (fun j21 hj21 => ?_)
          · show sp _ (PP _ _ _ (164, [(0, .ref o0), (1, .int r16)], [], w22))
            refine s_iload rfl rfl ?_
            refine s_callZ [.int r16] [] rfl rfl (Nat.le_of_ble_eq_true rfl) (ev_193 (d := d) (by omega) hT22 ) (fun r24 w23 hT23 => ?_)
            refine s_istoreF [(0, .ref o0), (2, .int (bi r24))] rfl (subl_c rfl (subl_c rfl (subl_n))) ?_
            refine s_const rfl ?_
            refine s_istoreF [(0, .ref o0), (2, .int (bi r24)), (3, .int 1)] rfl (subl_c rfl (subl_c rfl (subl_c rfl (subl_n)))) ?_
            refine s_aload rfl rfl ?_
            refine s_lconst (x := 0) rfl rfl ?_
            refine s_putL rfl hT23 ho0 rfl (fun w25 hT25 => ?_)
            refine s_aload rfl rfl ?_
            refine s_const rfl ?_
            refine s_putI rfl hT25 ho0 rfl (fun w26 hT26 => ?_)
            let lvL28 : Int32 → List (Nat × Value) := fun s80 => [(0, .ref o0), (2, .int (bi r24)), (3, .int s80)]
            refine s_loop lvL28 (subl_c rfl (subl_c rfl (subl_c rfl (subl_n)))) hT26 (fun v3_27 w29 hT29 => ?_)
            show sp _ (PP _ _ _ (181, [(0, .ref o0), (2, .int (bi r24)), (3, .int v3_27)], [], w29))
            refine s_aload rfl rfl ?_
            refine s_callI [.ref o0] [] rfl rfl (Nat.le_of_ble_eq_true rfl) (ev_192 (d := d) (by omega) hT29 ho0) (fun r31 w30 hT30 => ?_)
            refine s_callZ [.int r31] [] rfl rfl (Nat.le_of_ble_eq_true rfl) (ev_193 (d := d) (by omega) hT30 ) (fun r33 w32 hT32 => ?_)
            refine s_jnP (fun (s79 : Unit) w => (201, [(0, .ref o0), (2, .int (bi r24)), (3, .int v3_27)], [], w)) (fun s79 w35 hT35 => ?_) (fun j34 hj34 => ?_)
            · show sp _ (PP _ _ _ (201, [(0, .ref o0), (2, .int (bi r24)), (3, .int v3_27)], [], w35))
              refine s_iload rfl rfl ?_
              refine s_jnP (fun (s63 : Bool) w => (221, [(0, .ref o0), (2, .int (bi r24))], [.int (bi s63)], w)) (fun t37 w38 hT38 => ?_) (fun j36 hj36 => ?_)
              · show sp _ (PP _ _ _ (221, [(0, .ref o0), (2, .int (bi r24))], [.int (bi t37)], w38))
                refine s_istoreF [(0, .ref o0), (2, .int (bi r24)), (3, .int (bi t37))] rfl (subl_c rfl (subl_c rfl (subl_c rfl (subl_n)))) ?_
                refine s_aload rfl rfl ?_
                refine s_getI rfl hT38 ho0 ?_
                refine s_const rfl ?_
                refine s_jnP (fun (s53 : Unit) w => (248, [(0, .ref o0), (2, .int (bi r24)), (3, .int (bi t37))], [], w)) (fun s53 w40 hT40 => ?_) (fun j39 hj39 => ?_)
                · show sp _ (PP _ _ _ (248, [(0, .ref o0), (2, .int (bi r24)), (3, .int (bi t37))], [], w40))
                  refine s_aload rfl rfl ?_
                  refine s_getI rfl hT40 ho0 ?_
                  refine s_const rfl ?_
                  refine sp_ite (fun h41 => ?_) (fun h41 => ?_)
                  · refine s_ic0 rfl (zc_ge0 h41) ?_
                    refine s_aload rfl rfl ?_
                    refine s_const rfl ?_
                    refine s_aload rfl rfl ?_
                    refine s_getI rfl hT40 ho0 ?_
                    refine s_bin rfl rfl ?_
                    refine s_aload rfl rfl ?_
                    refine s_callI [.ref o0] [.int (10 * (wI w40 o0 14)), .ref o0] rfl rfl (Nat.le_of_ble_eq_true rfl) (ev_192 (d := d) (by omega) hT40 ho0) (fun r43 w42 hT42 => ?_)
                    refine s_bin rfl rfl ?_
                    refine s_const rfl ?_
                    refine s_bin rfl rfl ?_
                    refine s_putI rfl hT42 ho0 rfl (fun w44 hT44 => ?_)
                    refine s_aload rfl rfl ?_
                    refine s_dup rfl rfl ?_
                    refine s_getI rfl hT44 ho0 ?_
                    refine s_const rfl ?_
                    refine s_bin rfl rfl ?_
                    refine s_putI rfl hT44 ho0 rfl (fun w45 hT45 => ?_)
                    refine s_aload rfl rfl ?_
                    refine s_dup rfl rfl ?_
                    refine s_getI rfl hT45 ho0 ?_
                    refine s_const rfl ?_
                    refine s_bin rfl rfl ?_
                    refine s_putI rfl hT45 ho0 rfl (fun w46 hT46 => ?_)
                    refine s_goto rfl ?_
                    exact s_back (lvL := lvL28) (s' := (bi t37)) (subl_c rfl (subl_c rfl (subl_c rfl (subl_n)))) hT46 (fun _ _ h => h)
                  · refine s_ic1 rfl (zc_ge1 h41) ?_
                    refine s_aload rfl rfl ?_
                    refine s_dup rfl rfl ?_
                    refine s_getI rfl hT40 ho0 ?_
                    refine s_const rfl ?_
                    refine s_bin rfl rfl ?_
                    refine s_putI rfl hT40 ho0 rfl (fun w47 hT47 => ?_)
                    refine s_aload rfl rfl ?_
                    refine s_dup rfl rfl ?_
                    refine s_getI rfl hT47 ho0 ?_
                    refine s_const rfl ?_
                    refine s_bin rfl rfl ?_
                    refine s_putI rfl hT47 ho0 rfl (fun w48 hT48 => ?_)
                    refine s_goto rfl ?_
                    exact s_back (lvL := lvL28) (s' := (bi t37)) (subl_c rfl (subl_c rfl (subl_c rfl (subl_n)))) hT48 (fun _ _ h => h)
                · refine sp_ite (fun h49 => ?_) (fun h49 => ?_)
                  · refine s_ic0 rfl (zc_ge0 h49) ?_
                    refine s_aload rfl rfl ?_
                    refine s_aload rfl rfl ?_
                    refine s_getL rfl hT38 ho0 ?_
                    refine s_const rfl ?_
                    refine s_lshl rfl ?_
                    refine s_aload rfl rfl ?_
                    refine s_callI [.ref o0] [.long ((wL w38 o0 17) <<< ((8 : Int32).toInt64 &&& 63)), .ref o0] rfl rfl (Nat.le_of_ble_eq_true rfl) (ev_192 (d := d) (by omega) hT38 ho0) (fun r51 w50 hT50 => ?_)
                    refine s_i2l rfl ?_
                    refine s_lbin rfl rfl ?_
                    refine s_putL rfl hT50 ho0 rfl (fun w52 hT52 => ?_)
                    exact s_fgt _ (subl_c rfl (subl_c rfl (subl_c rfl (subl_n)))) (hj39 () w52 hT52)
                  · refine s_ic1 rfl (zc_ge1 h49) ?_
                    exact s_fgt _ (subl_c rfl (subl_c rfl (subl_c rfl (subl_n)))) (hj39 () w38 hT38)
              · refine s_jnP (fun (s62 : Unit) w => (220, [(0, .ref o0), (2, .int (bi r24))], [], w)) (fun s62 w55 hT55 => ?_) (fun j54 hj54 => ?_)
                · show sp _ (PP _ _ _ (220, [(0, .ref o0), (2, .int (bi r24))], [], w55))
                  refine s_const rfl ?_
                  exact s_fgt _ (subl_c rfl (subl_c rfl (subl_n))) (hj36 false w55 hT55)
                · refine sp_ite (fun h56 => ?_) (fun h56 => ?_)
                  · refine s_if1 rfl (zc_eq1 h56) ?_
                    exact s_fgt _ (subl_c rfl (subl_c rfl (subl_n))) (hj54 () w35 hT35)
                  · refine s_if0 rfl (zc_eq0 h56) ?_
                    refine s_aload rfl rfl ?_
                    refine s_callI [.ref o0] [] rfl rfl (Nat.le_of_ble_eq_true rfl) (ev_192 (d := d) (by omega) hT35 ho0) (fun r58 w57 hT57 => ?_)
                    refine s_callZ [.int r58] [] rfl rfl (Nat.le_of_ble_eq_true rfl) (ev_193 (d := d) (by omega) hT57 ) (fun r60 w59 hT59 => ?_)
                    refine s_iload rfl rfl ?_
                    refine sp_ite (fun h61 => ?_) (fun h61 => ?_)
                    · refine s_ic0 rfl (zc_ne0 h61) ?_
                      refine s_const rfl ?_
                      refine s_goto rfl ?_
                      exact s_fgt _ (subl_c rfl (subl_c rfl (subl_n))) (hj36 true w59 hT59)
                    · refine s_ic1 rfl (zc_ne1 h61) ?_
                      exact s_fgt _ (subl_c rfl (subl_c rfl (subl_n))) (hj54 () w59 hT59)
            · refine sp_ite (fun h64 => ?_) (fun h64 => ?_)
              · refine s_if1 rfl (zb_ne1 h64) ?_
                exact s_fgt _ (subl_c rfl (subl_c rfl (subl_c rfl (subl_n)))) (hj34 () w32 hT32)
              · refine s_if0 rfl (zb_ne0 h64) ?_
                refine s_aload rfl rfl ?_
                refine s_callI [.ref o0] [] rfl rfl (Nat.le_of_ble_eq_true rfl) (ev_192 (d := d) (by omega) hT32 ho0) (fun r66 w65 hT65 => ?_)
                refine s_callZ [.int r66] [] rfl rfl (Nat.le_of_ble_eq_true rfl) (ev_194 (d := d) (by omega) hT65 ) (fun r68 w67 hT67 => ?_)
                refine sp_ite (fun h69 => ?_) (fun h69 => ?_)
                · refine s_if0 rfl (zb_eq0 h69) ?_
                  exact s_fgt _ (subl_c rfl (subl_c rfl (subl_c rfl (subl_n)))) (hj34 () w67 hT67)
                · refine s_if1 rfl (zb_eq1 h69) ?_
                  refine s_aload rfl rfl ?_
                  refine s_iload rfl rfl ?_
                  refine sp_lt (fun z70 hz70 => ?_)
                  refine s_dia (333, [(0, .ref o0), (2, .int (bi r24)), (3, .int v3_27)], [.int z70, .ref o0], w67) ?_ (fun hk72 => ?_)
                  · refine s_putI rfl hT67 ho0 rfl (fun w71 hT71 => ?_)
                    exact s_retV rfl rfl hT71 (fun _ _ h => h)
                  · by_cases h73 : v3_27 = 0
                    · refine s_if1 rfl (zc_eq1 h73) ?_
                      refine s_const rfl ?_
                      refine s_goto rfl ?_
                      refine s_cong ?_ hk72
                      (rw [hz70, if_pos h73])
                    · refine s_if0 rfl (zc_eq0 h73) ?_
                      refine s_aload rfl rfl ?_
                      refine s_getI rfl hT67 ho0 ?_
                      refine s_iload rfl rfl ?_
                      by_cases h74 : r24 = true
                      · refine s_if0 rfl (zb_eq0 h74) ?_
                        refine s_const rfl ?_
                        refine s_goto rfl ?_
                        by_cases h75 : 7 < wI w67 o0 13
                        · refine s_ic0 rfl (zc_le0 h75) ?_
                          refine s_const rfl ?_
                          refine s_goto rfl ?_
                          refine s_cong ?_ hk72
                          (rw [hz70, if_neg h73, if_pos h74, if_pos h75])
                        · refine s_ic1 rfl (zc_le1 h75) ?_
                          refine s_iload rfl rfl ?_
                          by_cases h76 : r24 = true
                          · refine s_if0 rfl (zb_eq0 h76) ?_
                            refine s_const rfl ?_
                            refine s_goto rfl ?_
                            refine s_cong ?_ hk72
                            (rw [hz70, if_neg h73, if_pos h74, if_neg h75, if_pos h76])
                          · refine s_if1 rfl (zb_eq1 h76) ?_
                            refine s_const rfl ?_
                            refine s_cong ?_ hk72
                            (rw [hz70, if_neg h73, if_pos h74, if_neg h75, if_neg h76])
                      · refine s_if1 rfl (zb_eq1 h74) ?_
                        refine s_const rfl ?_
                        by_cases h77 : 3 < wI w67 o0 13
                        · refine s_ic0 rfl (zc_le0 h77) ?_
                          refine s_const rfl ?_
                          refine s_goto rfl ?_
                          refine s_cong ?_ hk72
                          (rw [hz70, if_neg h73, if_neg h74, if_pos h77])
                        · refine s_ic1 rfl (zc_le1 h77) ?_
                          refine s_iload rfl rfl ?_
                          by_cases h78 : r24 = true
                          · refine s_if0 rfl (zb_eq0 h78) ?_
                            refine s_const rfl ?_
                            refine s_goto rfl ?_
                            refine s_cong ?_ hk72
                            (rw [hz70, if_neg h73, if_neg h74, if_neg h77, if_pos h78])
                          · refine s_if1 rfl (zb_eq1 h78) ?_
                            refine s_const rfl ?_
                            refine s_cong ?_ hk72
                            (rw [hz70, if_neg h73, if_neg h74, if_neg h77, if_neg h78])
          · refine sp_ite (fun h81 => ?_) (fun h81 => ?_)
            · refine s_if1 rfl (zb_ne1 h81) ?_
              exact s_fgt _ (subl_c rfl (subl_c rfl (subl_n))) (hj21 () w19 hT19)
            · refine s_if0 rfl (zb_ne0 h81) ?_
              refine s_iload rfl rfl ?_
              refine s_callZ [.int r16] [] rfl rfl (Nat.le_of_ble_eq_true rfl) (ev_194 (d := d) (by omega) hT19 ) (fun r83 w82 hT82 => ?_)
              refine sp_ite (fun h84 => ?_) (fun h84 => ?_)
              · refine s_if1 rfl (zb_ne1 h84) ?_
                exact s_fgt _ (subl_c rfl (subl_c rfl (subl_n))) (hj21 () w82 hT82)
              · refine s_if0 rfl (zb_ne0 h84) ?_
                refine s_aload rfl rfl ?_
                refine s_iload rfl rfl ?_
                refine s_const rfl ?_
                refine sp_lt (fun z85 hz85 => ?_)
                refine s_dia (145, [(0, .ref o0), (1, .int r16)], [.int z85, .ref o0], w82) ?_ (fun hk89 => ?_)
                · refine s_putI rfl hT82 ho0 rfl (fun w86 hT86 => ?_)
                  refine s_aload rfl rfl ?_
                  refine s_iload rfl rfl ?_
                  refine s_putI rfl hT86 ho0 rfl (fun w87 hT87 => ?_)
                  refine s_aload rfl rfl ?_
                  refine s_dup rfl rfl ?_
                  refine s_getI rfl hT87 ho0 ?_
                  refine s_const rfl ?_
                  refine s_bin rfl rfl ?_
                  refine s_putI rfl hT87 ho0 rfl (fun w88 hT88 => ?_)
                  exact s_retV rfl rfl hT88 (fun _ _ h => h)
                · by_cases h90 : r16 = 59
                  · refine s_ic1 rfl (zc_eq1 h90) ?_
                    refine s_const rfl ?_
                    refine s_goto rfl ?_
                    refine s_cong ?_ hk89
                    (rw [hz85, if_pos h90])
                  · refine s_ic0 rfl (zc_eq0 h90) ?_
                    refine s_iload rfl rfl ?_
                    refine s_const rfl ?_
                    by_cases h91 : r16 = 40
                    · refine s_ic1 rfl (zc_eq1 h91) ?_
                      refine s_const rfl ?_
                      refine s_goto rfl ?_
                      refine s_cong ?_ hk89
                      (rw [hz85, if_neg h90, if_pos h91])
                    · refine s_ic0 rfl (zc_eq0 h91) ?_
                      refine s_iload rfl rfl ?_
                      refine s_const rfl ?_
                      by_cases h92 : r16 = 41
                      · refine s_ic1 rfl (zc_eq1 h92) ?_
                        refine s_const rfl ?_
                        refine s_goto rfl ?_
                        refine s_cong ?_ hk89
                        (rw [hz85, if_neg h90, if_neg h91, if_pos h92])
                      · refine s_ic0 rfl (zc_eq0 h92) ?_
                        refine s_iload rfl rfl ?_
                        refine s_const rfl ?_
                        by_cases h93 : 60 ≤ r16
                        · refine s_ic0 rfl (zc_lt0 h93) ?_
                          refine s_iload rfl rfl ?_
                          refine s_const rfl ?_
                          by_cases h94 : r16 ≤ 62
                          · refine s_ic0 rfl (zc_gt0 h94) ?_
                            refine s_const rfl ?_
                            refine s_goto rfl ?_
                            refine s_cong ?_ hk89
                            (rw [hz85, if_neg h90, if_neg h91, if_neg h92, if_pos h93, if_pos h94])
                          · refine s_ic1 rfl (zc_gt1 h94) ?_
                            refine s_const rfl ?_
                            refine s_cong ?_ hk89
                            (rw [hz85, if_neg h90, if_neg h91, if_neg h92, if_pos h93, if_neg h94])
                        · refine s_ic1 rfl (zc_lt1 h93) ?_
                          refine s_const rfl ?_
                          refine s_cong ?_ hk89
                          (rw [hz85, if_neg h90, if_neg h91, if_neg h92, if_neg h93])
      · refine sp_ite (fun h96 => ?_) (fun h96 => ?_)
        · refine s_ic0 rfl (zc_le0 h96) ?_
          refine s_aload rfl rfl ?_
          refine s_getI rfl hT12 ho0 ?_
          refine s_aload rfl rfl ?_
          refine s_getI rfl hT12 ho0 ?_
          refine sp_ite (fun h97 => ?_) (fun h97 => ?_)
          · refine s_ic0 rfl (zc_lt0 h97) ?_
            refine s_aload rfl rfl ?_
            refine s_aload rfl rfl ?_
            refine s_getI rfl hT12 ho0 ?_
            refine s_putI rfl hT12 ho0 rfl (fun w98 hT98 => ?_)
            refine s_aload rfl rfl ?_
            refine s_const rfl ?_
            refine s_putI rfl hT98 ho0 rfl (fun w99 hT99 => ?_)
            exact s_retV rfl rfl hT99 (fun _ _ h => h)
          · refine s_ic1 rfl (zc_lt1 h97) ?_
            exact s_fgt _ (subl_c rfl (subl_n)) (hj13 () w12 hT12)
        · refine s_ic1 rfl (zc_le1 h96) ?_
          exact s_fgt _ (subl_c rfl (subl_n)) (hj13 () w12 hT12)
/-- RugReaderModel.isWord(J)Z -/
def sh_196 (o0 : Nat) (p1 : Int64) (w : Wd) : Option (Bool × Wd) := if wI w o0 11 = 1 then (if wL w o0 17 = p1 then (some (true, w)) else (some (false, w))) else (some (false, w))
set_option maxRecDepth 20000 in
set_option maxHeartbeats 4000000 in
theorem ev_196 {d : Nat} (hd : 1 ≤ d) {o0 : Nat} {p1 : Int64} {w : Wd} (hT : TY w) (ho0 : ist o0 10) : sp (sh_196 o0 p1 w) (fun r w' => TY w' ∧ Ev d 196 [.ref o0, .long p1] w (cvZ r) w') := by
  obtain ⟨d, rfl⟩ : ∃ d', d = d' + 1 := ⟨d - 1, by omega⟩
  refine ev_of (M := M196) zin_196 rfl (by decide) rfl (Nat.le_of_ble_eq_true rfl) (Or.inr ⟨o0, _, rfl, ho0⟩) hT ?_
  show sp _ (PP (Ev d) M196 (KR cvZ) (0, [(0, .ref o0), (1, .long p1)], [], w))
  unfold sh_196
  refine s_aload rfl rfl ?_
  refine s_getI rfl hT ho0 ?_
  refine s_const rfl ?_
  refine sp_ite (fun h1 => ?_) (fun h1 => ?_)
  · refine s_ic0 rfl (zc_ne0 h1) ?_
    refine s_aload rfl rfl ?_
    refine s_getL rfl hT ho0 ?_
    refine s_lload rfl rfl ?_
    refine s_lcmp rfl ?_
    refine sp_ite (fun h2 => ?_) (fun h2 => ?_)
    · refine s_if0 rfl (zl_ne0 h2) ?_
      refine s_const rfl ?_
      refine s_goto rfl ?_
      exact s_retZ (z := true) rfl rfl hT (fun _ _ h => h)
    · refine s_if1 rfl (zl_ne1 h2) ?_
      refine s_const rfl ?_
      exact s_retZ (z := false) rfl rfl hT (fun _ _ h => h)
  · refine s_ic1 rfl (zc_ne1 h1) ?_
    refine s_const rfl ?_
    exact s_retZ (z := false) rfl rfl hT (fun _ _ h => h)
/-- RugReaderModel.bad(I)Z -/
def sh_197 (o0 : Nat) (p1 : Int32) (w : Wd) : Option (Bool × Wd) := stI w o0 15 p1 (fun w1 => stI w1 o0 16 (wI w1 o0 12) (fun w2 => some (false, w2)))
set_option maxRecDepth 20000 in
set_option maxHeartbeats 4000000 in
theorem ev_197 {d : Nat} (hd : 1 ≤ d) {o0 : Nat} {p1 : Int32} {w : Wd} (hT : TY w) (ho0 : ist o0 10) : sp (sh_197 o0 p1 w) (fun r w' => TY w' ∧ Ev d 197 [.ref o0, .int p1] w (cvZ r) w') := by
  obtain ⟨d, rfl⟩ : ∃ d', d = d' + 1 := ⟨d - 1, by omega⟩
  refine ev_of (M := M197) zin_197 rfl (by decide) rfl (Nat.le_of_ble_eq_true rfl) (Or.inr ⟨o0, _, rfl, ho0⟩) hT ?_
  show sp _ (PP (Ev d) M197 (KR cvZ) (0, [(0, .ref o0), (1, .int p1)], [], w))
  unfold sh_197
  refine s_aload rfl rfl ?_
  refine s_iload rfl rfl ?_
  refine s_putI rfl hT ho0 rfl (fun w1 hT1 => ?_)
  refine s_aload rfl rfl ?_
  refine s_aload rfl rfl ?_
  refine s_getI rfl hT1 ho0 ?_
  refine s_putI rfl hT1 ho0 rfl (fun w2 hT2 => ?_)
  refine s_const rfl ?_
  exact s_retZ (z := false) rfl rfl hT2 (fun _ _ h => h)
/-- RugReaderModel.isIn(III)Z -/
def sh_199 (p0 : Int32) (p1 : Int32) (p2 : Int32) (w : Wd) : Option (Bool × Wd) := lt (if p1 ≤ p0 then (if p0 ≤ p2 then true else false) else false : Bool) (fun z1 => some (z1, w))
set_option maxRecDepth 20000 in
set_option maxHeartbeats 4000000 in
theorem ev_199 {d : Nat} (hd : 1 ≤ d) {p0 : Int32} {p1 : Int32} {p2 : Int32} {w : Wd} (hT : TY w)  : sp (sh_199 p0 p1 p2 w) (fun r w' => TY w' ∧ Ev d 199 [.int p0, .int p1, .int p2] w (cvZ r) w') := by
  obtain ⟨d, rfl⟩ : ∃ d', d = d' + 1 := ⟨d - 1, by omega⟩
  refine ev_of (M := M199) zin_199 rfl (by decide) rfl (Nat.le_of_ble_eq_true rfl) (Or.inl rfl) hT ?_
  show sp _ (PP (Ev d) M199 (KR cvZ) (0, [(0, .int p0), (1, .int p1), (2, .int p2)], [], w))
  unfold sh_199
  refine s_iload rfl rfl ?_
  refine s_iload rfl rfl ?_
  refine sp_lt (fun z1 hz1 => ?_)
  refine s_dia (15, [(0, .int p0), (1, .int p1), (2, .int p2)], [.int (bi z1)], w) ?_ (fun hk2 => ?_)
  · exact s_retZ (z := z1) rfl rfl hT (fun _ _ h => h)
  · by_cases h3 : p1 ≤ p0
    · refine s_ic0 rfl (zc_lt0 h3) ?_
      refine s_iload rfl rfl ?_
      refine s_iload rfl rfl ?_
      by_cases h4 : p0 ≤ p2
      · refine s_ic0 rfl (zc_gt0 h4) ?_
        refine s_const rfl ?_
        refine s_goto rfl ?_
        refine s_cong ?_ hk2
        (rw [hz1, if_pos h3, if_pos h4]; rfl)
      · refine s_ic1 rfl (zc_gt1 h4) ?_
        refine s_const rfl ?_
        refine s_cong ?_ hk2
        (rw [hz1, if_pos h3, if_neg h4]; rfl)
    · refine s_ic1 rfl (zc_lt1 h3) ?_
      refine s_const rfl ?_
      refine s_cong ?_ hk2
      (rw [hz1, if_neg h3]; rfl)
/-- RugReaderModel.takes(II)Z -/
def sh_198 (o0 : Nat) (p1 : Int32) (p2 : Int32) (w : Wd) : Option (Bool × Wd) := if wI w o0 11 = 2 then (cl (sh_199 (wI w o0 14) p1 p2 w) (fun r3 w2 => if r3 = true then (stI w2 o0 18 (wI w2 o0 14) (fun w5 => cl (sh_191 o0 w5) (fun _ w6 => some (true, w6)))) else (cl (sh_197 o0 2 w2) (fun r9 w8 => some (r9, w8))))) else (cl (sh_197 o0 1 w) (fun r11 w10 => some (r11, w10)))
set_option maxRecDepth 20000 in
set_option maxHeartbeats 4000000 in
theorem ev_198 {d : Nat} (hd : 3 ≤ d) {o0 : Nat} {p1 : Int32} {p2 : Int32} {w : Wd} (hT : TY w) (ho0 : ist o0 10) : sp (sh_198 o0 p1 p2 w) (fun r w' => TY w' ∧ Ev d 198 [.ref o0, .int p1, .int p2] w (cvZ r) w') := by
  obtain ⟨d, rfl⟩ : ∃ d', d = d' + 1 := ⟨d - 1, by omega⟩
  refine ev_of (M := M198) zin_198 rfl (by decide) rfl (Nat.le_of_ble_eq_true rfl) (Or.inr ⟨o0, _, rfl, ho0⟩) hT ?_
  show sp _ (PP (Ev d) M198 (KR cvZ) (0, [(0, .ref o0), (1, .int p1), (2, .int p2)], [], w))
  unfold sh_198
  refine s_aload rfl rfl ?_
  refine s_getI rfl hT ho0 ?_
  refine s_const rfl ?_
  refine sp_ite (fun h1 => ?_) (fun h1 => ?_)
  · refine s_ic1 rfl (zc_eq1 h1) ?_
    refine s_aload rfl rfl ?_
    refine s_getI rfl hT ho0 ?_
    refine s_iload rfl rfl ?_
    refine s_iload rfl rfl ?_
    refine s_callZ [.int (wI w o0 14), .int p1, .int p2] [] rfl rfl (Nat.le_of_ble_eq_true rfl) (ev_199 (d := d) (by omega) hT ) (fun r3 w2 hT2 => ?_)
    refine sp_ite (fun h4 => ?_) (fun h4 => ?_)
    · refine s_if1 rfl (zb_ne1 h4) ?_
      refine s_aload rfl rfl ?_
      refine s_aload rfl rfl ?_
      refine s_getI rfl hT2 ho0 ?_
      refine s_putI rfl hT2 ho0 rfl (fun w5 hT5 => ?_)
      refine s_aload rfl rfl ?_
      refine s_callV [.ref o0] [] rfl rfl (Nat.le_of_ble_eq_true rfl) (ev_191 (d := d) (by omega) hT5 ho0) (fun _ w6 hT6 => ?_)
      refine s_const rfl ?_
      exact s_retZ (z := true) rfl rfl hT6 (fun _ _ h => h)
    · refine s_if0 rfl (zb_ne0 h4) ?_
      refine s_aload rfl rfl ?_
      refine s_const rfl ?_
      refine s_callZ [.ref o0, .int 2] [] rfl rfl (Nat.le_of_ble_eq_true rfl) (ev_197 (d := d) (by omega) hT2 ho0) (fun r9 w8 hT8 => ?_)
      exact s_retZ (z := r9) rfl rfl hT8 (fun _ _ h => h)
  · refine s_ic0 rfl (zc_eq0 h1) ?_
    refine s_aload rfl rfl ?_
    refine s_const rfl ?_
    refine s_callZ [.ref o0, .int 1] [] rfl rfl (Nat.le_of_ble_eq_true rfl) (ev_197 (d := d) (by omega) hT ho0) (fun r11 w10 hT10 => ?_)
    exact s_retZ (z := r11) rfl rfl hT10 (fun _ _ h => h)
/-- RugReaderModel.isName()Z -/
def sh_201 (o0 : Nat) (w : Wd) : Option (Bool × Wd) := lt (if wI w o0 11 = 1 then true else false : Bool) (fun z1 => itM (fun (s12 : Bool × Int32) (w5 : Wd) => match s12 with | (v1_2, v2_3) => if v2_3 < 20 then (if v1_2 = true then (gd (ib v2_3 20) (if wL w5 o0 17 = wL w5 (o0 + 6) (ix v2_3) then (lt (v2_3 + 1 : Int32) (fun v2_9 => some (.inl (false, v2_9), w5))) else (lt (v2_3 + 1 : Int32) (fun v2_10 => some (.inl (true, v2_10), w5))))) else (lt (v2_3 + 1 : Int32) (fun v2_11 => some (.inl (false, v2_11), w5)))) else (some (.inr (v1_2), w5))) FU (z1, 0) w)
set_option maxRecDepth 20000 in
set_option maxHeartbeats 4000000 in
theorem ev_201 {d : Nat} (hd : 1 ≤ d) {o0 : Nat} {w : Wd} (hT : TY w) (ho0 : ist o0 10) : sp (sh_201 o0 w) (fun r w' => TY w' ∧ Ev d 201 [.ref o0] w (cvZ r) w') := by
  obtain ⟨d, rfl⟩ : ∃ d', d = d' + 1 := ⟨d - 1, by omega⟩
  refine ev_of (M := M201) zin_201 rfl (by decide) rfl (Nat.le_of_ble_eq_true rfl) (Or.inr ⟨o0, _, rfl, ho0⟩) hT ?_
  show sp _ (PP (Ev d) M201 (KR cvZ) (0, [(0, .ref o0)], [], w))
  unfold sh_201
  refine s_aload rfl rfl ?_
  refine s_getI rfl hT ho0 ?_
  refine s_const rfl ?_
  refine sp_lt (fun z1 hz1 => ?_)
  refine s_dia (13, [(0, .ref o0)], [.int (bi z1)], w) ?_ (fun hk13 => ?_)
  · refine s_istoreF [(0, .ref o0), (1, .int (bi z1))] rfl (subl_c rfl (subl_c rfl (subl_n))) ?_
    refine s_const rfl ?_
    refine s_istoreF [(0, .ref o0), (1, .int (bi z1)), (2, .int 0)] rfl (subl_c rfl (subl_c rfl (subl_c rfl (subl_n)))) ?_
    let lvL4 : Bool × Int32 → List (Nat × Value) := fun s12 => [(0, .ref o0), (1, .int (bi (s12.1))), (2, .int (s12.2))]
    refine s_loop lvL4 (subl_c rfl (subl_c rfl (subl_c rfl (subl_n)))) hT (fun s12 w5 hT5 => ?_)
    obtain ⟨v1_2, v2_3⟩ := s12
    show sp _ (PP _ _ _ (16, [(0, .ref o0), (1, .int (bi v1_2)), (2, .int v2_3)], [], w5))
    refine s_iload rfl rfl ?_
    refine s_const rfl ?_
    refine sp_ite (fun h6 => ?_) (fun h6 => ?_)
    · refine s_ic0 rfl (zc_ge0 h6) ?_
      refine s_iload rfl rfl ?_
      refine sp_ite (fun h7 => ?_) (fun h7 => ?_)
      · refine s_if0 rfl (zb_eq0 h7) ?_
        refine s_aload rfl rfl ?_
        refine s_getL rfl hT5 ho0 ?_
        refine s_aload rfl rfl ?_
        refine s_getF rfl hT5 ho0 rfl ?_
        refine s_iload rfl rfl ?_
        refine s_lald rfl hT5 (of_10_10 ho0) ?_
        refine s_lcmp rfl ?_
        refine sp_ite (fun h8 => ?_) (fun h8 => ?_)
        · refine s_if1 rfl (zl_eq1 h8) ?_
          refine s_const rfl ?_
          refine s_istoreF [(0, .ref o0), (1, .int 0), (2, .int v2_3)] rfl (subl_c rfl (subl_c rfl (subl_c rfl (subl_n)))) ?_
          refine s_iincF (fun v2_9 => [(0, .ref o0), (1, .int 0), (2, .int v2_9)]) rfl rfl (fun _ => subl_c rfl (subl_c rfl (subl_c rfl (subl_n)))) (fun v2_9 => ?_)
          refine s_goto rfl ?_
          exact s_back (lvL := lvL4) (s' := (false, v2_9)) (subl_c rfl (subl_c rfl (subl_c rfl (subl_n)))) hT5 (fun _ _ h => h)
        · refine s_if0 rfl (zl_eq0 h8) ?_
          refine s_const rfl ?_
          refine s_goto rfl ?_
          refine s_istoreF [(0, .ref o0), (1, .int 1), (2, .int v2_3)] rfl (subl_c rfl (subl_c rfl (subl_c rfl (subl_n)))) ?_
          refine s_iincF (fun v2_10 => [(0, .ref o0), (1, .int 1), (2, .int v2_10)]) rfl rfl (fun _ => subl_c rfl (subl_c rfl (subl_c rfl (subl_n)))) (fun v2_10 => ?_)
          refine s_goto rfl ?_
          exact s_back (lvL := lvL4) (s' := (true, v2_10)) (subl_c rfl (subl_c rfl (subl_c rfl (subl_n)))) hT5 (fun _ _ h => h)
      · refine s_if1 rfl (zb_eq1 h7) ?_
        refine s_const rfl ?_
        refine s_istoreF [(0, .ref o0), (1, .int 0), (2, .int v2_3)] rfl (subl_c rfl (subl_c rfl (subl_c rfl (subl_n)))) ?_
        refine s_iincF (fun v2_11 => [(0, .ref o0), (1, .int 0), (2, .int v2_11)]) rfl rfl (fun _ => subl_c rfl (subl_c rfl (subl_c rfl (subl_n)))) (fun v2_11 => ?_)
        refine s_goto rfl ?_
        exact s_back (lvL := lvL4) (s' := (false, v2_11)) (subl_c rfl (subl_c rfl (subl_c rfl (subl_n)))) hT5 (fun _ _ h => h)
    · refine s_ic1 rfl (zc_ge1 h6) ?_
      refine s_iload rfl rfl ?_
      exact s_retZ (z := v1_2) rfl rfl hT5 (fun _ _ h => h)
  · by_cases h14 : wI w o0 11 = 1
    · refine s_ic0 rfl (zc_ne0 h14) ?_
      refine s_const rfl ?_
      refine s_goto rfl ?_
      refine s_cong ?_ hk13
      (rw [hz1, if_pos h14]; rfl)
    · refine s_ic1 rfl (zc_ne1 h14) ?_
      refine s_const rfl ?_
      refine s_cong ?_ hk13
      (rw [hz1, if_neg h14]; rfl)
/-- RugReaderModel.find(II)I -/
def sh_202 (o0 : Nat) (p1 : Int32) (p2 : Int32) (w : Wd) : Option (Int32 × Wd) := itM (fun (v3_1 : Int32) (w3 : Wd) => if v3_1 < p2 then (gd (ib (p1 + v3_1) 24) (if wL w3 (o0 + 5) (ix (p1 + v3_1)) = wL w3 o0 17 then (some (.inr (v3_1), w3)) else (lt (v3_1 + 1 : Int32) (fun v3_6 => some (.inl v3_6, w3))))) else (some (.inr ((-1)), w3))) FU 0 w
set_option maxRecDepth 20000 in
set_option maxHeartbeats 4000000 in
theorem ev_202 {d : Nat} (hd : 1 ≤ d) {o0 : Nat} {p1 : Int32} {p2 : Int32} {w : Wd} (hT : TY w) (ho0 : ist o0 10) : sp (sh_202 o0 p1 p2 w) (fun r w' => TY w' ∧ Ev d 202 [.ref o0, .int p1, .int p2] w (cvI r) w') := by
  obtain ⟨d, rfl⟩ : ∃ d', d = d' + 1 := ⟨d - 1, by omega⟩
  refine ev_of (M := M202) zin_202 rfl (by decide) rfl (Nat.le_of_ble_eq_true rfl) (Or.inr ⟨o0, _, rfl, ho0⟩) hT ?_
  show sp _ (PP (Ev d) M202 (KR cvI) (0, [(0, .ref o0), (1, .int p1), (2, .int p2)], [], w))
  unfold sh_202
  refine s_const rfl ?_
  refine s_istoreF [(0, .ref o0), (1, .int p1), (2, .int p2), (3, .int 0)] rfl (subl_c rfl (subl_c rfl (subl_c rfl (subl_c rfl (subl_n))))) ?_
  let lvL2 : Int32 → List (Nat × Value) := fun s7 => [(0, .ref o0), (1, .int p1), (2, .int p2), (3, .int s7)]
  refine s_loop lvL2 (subl_c rfl (subl_c rfl (subl_c rfl (subl_c rfl (subl_n))))) hT (fun v3_1 w3 hT3 => ?_)
  show sp _ (PP _ _ _ (2, [(0, .ref o0), (1, .int p1), (2, .int p2), (3, .int v3_1)], [], w3))
  refine s_iload rfl rfl ?_
  refine s_iload rfl rfl ?_
  refine sp_ite (fun h4 => ?_) (fun h4 => ?_)
  · refine s_ic0 rfl (zc_ge0 h4) ?_
    refine s_aload rfl rfl ?_
    refine s_getF rfl hT3 ho0 rfl ?_
    refine s_iload rfl rfl ?_
    refine s_iload rfl rfl ?_
    refine s_bin rfl rfl ?_
    refine s_lald rfl hT3 (of_10_9 ho0) ?_
    refine s_aload rfl rfl ?_
    refine s_getL rfl hT3 ho0 ?_
    refine s_lcmp rfl ?_
    refine sp_ite (fun h5 => ?_) (fun h5 => ?_)
    · refine s_if0 rfl (zl_ne0 h5) ?_
      refine s_iload rfl rfl ?_
      exact s_retI rfl rfl hT3 (fun _ _ h => h)
    · refine s_if1 rfl (zl_ne1 h5) ?_
      refine s_iincF (fun v3_6 => [(0, .ref o0), (1, .int p1), (2, .int p2), (3, .int v3_6)]) rfl rfl (fun _ => subl_c rfl (subl_c rfl (subl_c rfl (subl_c rfl (subl_n))))) (fun v3_6 => ?_)
      refine s_goto rfl ?_
      exact s_back (lvL := lvL2) (s' := v3_6) (subl_c rfl (subl_c rfl (subl_c rfl (subl_c rfl (subl_n))))) hT3 (fun _ _ h => h)
  · refine s_ic1 rfl (zc_ge1 h4) ?_
    refine s_const rfl ?_
    exact s_retI rfl rfl hT3 (fun _ _ h => h)
/-- RugReaderModel.fresh(I)Z -/
def sh_200 (o0 : Nat) (p1 : Int32) (w : Wd) : Option (Bool × Wd) := cl (sh_201 o0 w) (fun r2 w1 => if r2 = true then (gd (ib 2 429) (cl (sh_202 o0 12 (wI w1 (o0 + 3) (ix 2)) w1) (fun r5 w4 => if r5 < 0 then (gd (ib 3 429) (cl (sh_202 o0 18 (wI w4 (o0 + 3) (ix 3)) w4) (fun r8 w7 => if 0 ≤ r8 then (cl (sh_197 o0 3 w7) (fun r11 w10 => some (r11, w10))) else (gd (ib p1 24) (stL w7 (o0 + 5) (ix p1) (wL w7 o0 17) (fun w12 => cl (sh_191 o0 w12) (fun _ w13 => some (true, w13)))))))) else (cl (sh_197 o0 3 w4) (fun r16 w15 => some (r16, w15)))))) else (cl (sh_197 o0 1 w1) (fun r18 w17 => some (r18, w17))))
set_option maxRecDepth 20000 in
set_option maxHeartbeats 4000000 in
theorem ev_200 {d : Nat} (hd : 3 ≤ d) {o0 : Nat} {p1 : Int32} {w : Wd} (hT : TY w) (ho0 : ist o0 10) : sp (sh_200 o0 p1 w) (fun r w' => TY w' ∧ Ev d 200 [.ref o0, .int p1] w (cvZ r) w') := by
  obtain ⟨d, rfl⟩ : ∃ d', d = d' + 1 := ⟨d - 1, by omega⟩
  refine ev_of (M := M200) zin_200 rfl (by decide) rfl (Nat.le_of_ble_eq_true rfl) (Or.inr ⟨o0, _, rfl, ho0⟩) hT ?_
  show sp _ (PP (Ev d) M200 (KR cvZ) (0, [(0, .ref o0), (1, .int p1)], [], w))
  unfold sh_200
  refine s_aload rfl rfl ?_
  refine s_callZ [.ref o0] [] rfl rfl (Nat.le_of_ble_eq_true rfl) (ev_201 (d := d) (by omega) hT ho0) (fun r2 w1 hT1 => ?_)
  refine sp_ite (fun h3 => ?_) (fun h3 => ?_)
  · refine s_if1 rfl (zb_ne1 h3) ?_
    refine s_aload rfl rfl ?_
    refine s_const rfl ?_
    refine s_aload rfl rfl ?_
    refine s_getF rfl hT1 ho0 rfl ?_
    refine s_const rfl ?_
    refine s_iald rfl hT1 (of_10_7 ho0) ?_
    refine s_callI [.ref o0, .int 12, .int (wI w1 (o0 + 3) (ix 2))] [] rfl rfl (Nat.le_of_ble_eq_true rfl) (ev_202 (d := d) (by omega) hT1 ho0) (fun r5 w4 hT4 => ?_)
    refine sp_ite (fun h6 => ?_) (fun h6 => ?_)
    · refine s_if0 rfl (zc_ge0 h6) ?_
      refine s_aload rfl rfl ?_
      refine s_const rfl ?_
      refine s_aload rfl rfl ?_
      refine s_getF rfl hT4 ho0 rfl ?_
      refine s_const rfl ?_
      refine s_iald rfl hT4 (of_10_7 ho0) ?_
      refine s_callI [.ref o0, .int 18, .int (wI w4 (o0 + 3) (ix 3))] [] rfl rfl (Nat.le_of_ble_eq_true rfl) (ev_202 (d := d) (by omega) hT4 ho0) (fun r8 w7 hT7 => ?_)
      refine sp_ite (fun h9 => ?_) (fun h9 => ?_)
      · refine s_if0 rfl (zc_lt0 h9) ?_
        refine s_aload rfl rfl ?_
        refine s_const rfl ?_
        refine s_callZ [.ref o0, .int 3] [] rfl rfl (Nat.le_of_ble_eq_true rfl) (ev_197 (d := d) (by omega) hT7 ho0) (fun r11 w10 hT10 => ?_)
        exact s_retZ (z := r11) rfl rfl hT10 (fun _ _ h => h)
      · refine s_if1 rfl (zc_lt1 h9) ?_
        refine s_aload rfl rfl ?_
        refine s_getF rfl hT7 ho0 rfl ?_
        refine s_iload rfl rfl ?_
        refine s_aload rfl rfl ?_
        refine s_getL rfl hT7 ho0 ?_
        refine s_last rfl hT7 (of_10_9 ho0) (fun w12 hT12 => ?_)
        refine s_aload rfl rfl ?_
        refine s_callV [.ref o0] [] rfl rfl (Nat.le_of_ble_eq_true rfl) (ev_191 (d := d) (by omega) hT12 ho0) (fun _ w13 hT13 => ?_)
        refine s_const rfl ?_
        exact s_retZ (z := true) rfl rfl hT13 (fun _ _ h => h)
    · refine s_if1 rfl (zc_ge1 h6) ?_
      refine s_aload rfl rfl ?_
      refine s_const rfl ?_
      refine s_callZ [.ref o0, .int 3] [] rfl rfl (Nat.le_of_ble_eq_true rfl) (ev_197 (d := d) (by omega) hT4 ho0) (fun r16 w15 hT15 => ?_)
      exact s_retZ (z := r16) rfl rfl hT15 (fun _ _ h => h)
  · refine s_if0 rfl (zb_ne0 h3) ?_
    refine s_aload rfl rfl ?_
    refine s_const rfl ?_
    refine s_callZ [.ref o0, .int 1] [] rfl rfl (Nat.le_of_ble_eq_true rfl) (ev_197 (d := d) (by omega) hT1 ho0) (fun r18 w17 hT17 => ?_)
    exact s_retZ (z := r18) rfl rfl hT17 (fun _ _ h => h)
/-- RugReaderModel.looksAtTuft()Z -/
def sh_203 (o0 : Nat) (w : Wd) : Option (Bool × Wd) := gd (ib 0 429) (cl (sh_198 o0 0 ((wI w (o0 + 3) (ix 0)) - 1) w) (fun r2 w1 => if r2 = true then (lt (wI w1 o0 18 : Int32) (fun v1_4 => if wI w1 o0 11 = 2 then (gd (ib 1 429) (if wI w1 (o0 + 3) (ix 1) ≤ wI w1 o0 14 then (cl (sh_197 o0 2 w1) (fun r8 w7 => some (r8, w7))) else (stI w1 o0 18 ((12 * (wI w1 o0 14)) + v1_4) (fun w9 => some (true, w9))))) else (cl (sh_197 o0 1 w1) (fun r11 w10 => some (r11, w10))))) else (some (false, w1))))
set_option maxRecDepth 20000 in
set_option maxHeartbeats 4000000 in
theorem ev_203 {d : Nat} (hd : 4 ≤ d) {o0 : Nat} {w : Wd} (hT : TY w) (ho0 : ist o0 10) : sp (sh_203 o0 w) (fun r w' => TY w' ∧ Ev d 203 [.ref o0] w (cvZ r) w') := by
  obtain ⟨d, rfl⟩ : ∃ d', d = d' + 1 := ⟨d - 1, by omega⟩
  refine ev_of (M := M203) zin_203 rfl (by decide) rfl (Nat.le_of_ble_eq_true rfl) (Or.inr ⟨o0, _, rfl, ho0⟩) hT ?_
  show sp _ (PP (Ev d) M203 (KR cvZ) (0, [(0, .ref o0)], [], w))
  unfold sh_203
  refine s_aload rfl rfl ?_
  refine s_const rfl ?_
  refine s_aload rfl rfl ?_
  refine s_getF rfl hT ho0 rfl ?_
  refine s_const rfl ?_
  refine s_iald rfl hT (of_10_7 ho0) ?_
  refine s_const rfl ?_
  refine s_bin rfl rfl ?_
  refine s_callZ [.ref o0, .int 0, .int ((wI w (o0 + 3) (ix 0)) - 1)] [] rfl rfl (Nat.le_of_ble_eq_true rfl) (ev_198 (d := d) (by omega) hT ho0) (fun r2 w1 hT1 => ?_)
  refine sp_ite (fun h3 => ?_) (fun h3 => ?_)
  · refine s_if1 rfl (zb_ne1 h3) ?_
    refine s_aload rfl rfl ?_
    refine s_getI rfl hT1 ho0 ?_
    refine s_nmI (fun v1_4 => ?_)
    refine s_istoreF [(0, .ref o0), (1, .int v1_4)] rfl (subl_c rfl (subl_c rfl (subl_n))) ?_
    refine s_aload rfl rfl ?_
    refine s_getI rfl hT1 ho0 ?_
    refine s_const rfl ?_
    refine sp_ite (fun h5 => ?_) (fun h5 => ?_)
    · refine s_ic1 rfl (zc_eq1 h5) ?_
      refine s_aload rfl rfl ?_
      refine s_getI rfl hT1 ho0 ?_
      refine s_aload rfl rfl ?_
      refine s_getF rfl hT1 ho0 rfl ?_
      refine s_const rfl ?_
      refine s_iald rfl hT1 (of_10_7 ho0) ?_
      refine sp_ite (fun h6 => ?_) (fun h6 => ?_)
      · refine s_ic0 rfl (zc_lt0 h6) ?_
        refine s_aload rfl rfl ?_
        refine s_const rfl ?_
        refine s_callZ [.ref o0, .int 2] [] rfl rfl (Nat.le_of_ble_eq_true rfl) (ev_197 (d := d) (by omega) hT1 ho0) (fun r8 w7 hT7 => ?_)
        exact s_retZ (z := r8) rfl rfl hT7 (fun _ _ h => h)
      · refine s_ic1 rfl (zc_lt1 h6) ?_
        refine s_aload rfl rfl ?_
        refine s_const rfl ?_
        refine s_aload rfl rfl ?_
        refine s_getI rfl hT1 ho0 ?_
        refine s_bin rfl rfl ?_
        refine s_iload rfl rfl ?_
        refine s_bin rfl rfl ?_
        refine s_putI rfl hT1 ho0 rfl (fun w9 hT9 => ?_)
        refine s_const rfl ?_
        exact s_retZ (z := true) rfl rfl hT9 (fun _ _ h => h)
    · refine s_ic0 rfl (zc_eq0 h5) ?_
      refine s_aload rfl rfl ?_
      refine s_const rfl ?_
      refine s_callZ [.ref o0, .int 1] [] rfl rfl (Nat.le_of_ble_eq_true rfl) (ev_197 (d := d) (by omega) hT1 ho0) (fun r11 w10 hT10 => ?_)
      exact s_retZ (z := r11) rfl rfl hT10 (fun _ _ h => h)
  · refine s_if0 rfl (zb_ne0 h3) ?_
    refine s_const rfl ?_
    exact s_retZ (z := false) rfl rfl hT1 (fun _ _ h => h)
/-- RugReaderModel.isSign(I)Z -/
def sh_205 (o0 : Nat) (p1 : Int32) (w : Wd) : Option (Bool × Wd) := lt (if wI w o0 11 = 3 then (if wI w o0 14 = p1 then true else false) else false : Bool) (fun z1 => some (z1, w))
set_option maxRecDepth 20000 in
set_option maxHeartbeats 4000000 in
theorem ev_205 {d : Nat} (hd : 1 ≤ d) {o0 : Nat} {p1 : Int32} {w : Wd} (hT : TY w) (ho0 : ist o0 10) : sp (sh_205 o0 p1 w) (fun r w' => TY w' ∧ Ev d 205 [.ref o0, .int p1] w (cvZ r) w') := by
  obtain ⟨d, rfl⟩ : ∃ d', d = d' + 1 := ⟨d - 1, by omega⟩
  refine ev_of (M := M205) zin_205 rfl (by decide) rfl (Nat.le_of_ble_eq_true rfl) (Or.inr ⟨o0, _, rfl, ho0⟩) hT ?_
  show sp _ (PP (Ev d) M205 (KR cvZ) (0, [(0, .ref o0), (1, .int p1)], [], w))
  unfold sh_205
  refine s_aload rfl rfl ?_
  refine s_getI rfl hT ho0 ?_
  refine s_const rfl ?_
  refine sp_lt (fun z1 hz1 => ?_)
  refine s_dia (21, [(0, .ref o0), (1, .int p1)], [.int (bi z1)], w) ?_ (fun hk2 => ?_)
  · exact s_retZ (z := z1) rfl rfl hT (fun _ _ h => h)
  · by_cases h3 : wI w o0 11 = 3
    · refine s_ic0 rfl (zc_ne0 h3) ?_
      refine s_aload rfl rfl ?_
      refine s_getI rfl hT ho0 ?_
      refine s_iload rfl rfl ?_
      by_cases h4 : wI w o0 14 = p1
      · refine s_ic0 rfl (zc_ne0 h4) ?_
        refine s_const rfl ?_
        refine s_goto rfl ?_
        refine s_cong ?_ hk2
        (rw [hz1, if_pos h3, if_pos h4]; rfl)
      · refine s_ic1 rfl (zc_ne1 h4) ?_
        refine s_const rfl ?_
        refine s_cong ?_ hk2
        (rw [hz1, if_pos h3, if_neg h4]; rfl)
    · refine s_ic1 rfl (zc_ne1 h3) ?_
      refine s_const rfl ?_
      refine s_cong ?_ hk2
      (rw [hz1, if_neg h3]; rfl)
/-- RugReaderModel.dirOfWord()I -/
def sh_206 (o0 : Nat) (w : Wd) : Option (Int32 × Wd) := cl (sh_196 o0 110 w) (fun r2 w1 => if r2 = true then (some (0, w1)) else (cl (sh_196 o0 101 w1) (fun r5 w4 => if r5 = true then (some (1, w4)) else (cl (sh_196 o0 115 w4) (fun r8 w7 => if r8 = true then (some (2, w7)) else (cl (sh_196 o0 119 w7) (fun r11 w10 => if r11 = true then (some (3, w10)) else (some ((-1), w10)))))))))
set_option maxRecDepth 20000 in
set_option maxHeartbeats 4000000 in
theorem ev_206 {d : Nat} (hd : 2 ≤ d) {o0 : Nat} {w : Wd} (hT : TY w) (ho0 : ist o0 10) : sp (sh_206 o0 w) (fun r w' => TY w' ∧ Ev d 206 [.ref o0] w (cvI r) w') := by
  obtain ⟨d, rfl⟩ : ∃ d', d = d' + 1 := ⟨d - 1, by omega⟩
  refine ev_of (M := M206) zin_206 rfl (by decide) rfl (Nat.le_of_ble_eq_true rfl) (Or.inr ⟨o0, _, rfl, ho0⟩) hT ?_
  show sp _ (PP (Ev d) M206 (KR cvI) (0, [(0, .ref o0)], [], w))
  unfold sh_206
  refine s_aload rfl rfl ?_
  refine s_lconst (x := 110) rfl rfl ?_
  refine s_callZ [.ref o0, .long 110] [] rfl rfl (Nat.le_of_ble_eq_true rfl) (ev_196 (d := d) (by omega) hT ho0) (fun r2 w1 hT1 => ?_)
  refine sp_ite (fun h3 => ?_) (fun h3 => ?_)
  · refine s_if0 rfl (zb_eq0 h3) ?_
    refine s_const rfl ?_
    refine s_goto rfl ?_
    exact s_retI rfl rfl hT1 (fun _ _ h => h)
  · refine s_if1 rfl (zb_eq1 h3) ?_
    refine s_aload rfl rfl ?_
    refine s_lconst (x := 101) rfl rfl ?_
    refine s_callZ [.ref o0, .long 101] [] rfl rfl (Nat.le_of_ble_eq_true rfl) (ev_196 (d := d) (by omega) hT1 ho0) (fun r5 w4 hT4 => ?_)
    refine sp_ite (fun h6 => ?_) (fun h6 => ?_)
    · refine s_if0 rfl (zb_eq0 h6) ?_
      refine s_const rfl ?_
      refine s_goto rfl ?_
      exact s_retI rfl rfl hT4 (fun _ _ h => h)
    · refine s_if1 rfl (zb_eq1 h6) ?_
      refine s_aload rfl rfl ?_
      refine s_lconst (x := 115) rfl rfl ?_
      refine s_callZ [.ref o0, .long 115] [] rfl rfl (Nat.le_of_ble_eq_true rfl) (ev_196 (d := d) (by omega) hT4 ho0) (fun r8 w7 hT7 => ?_)
      refine sp_ite (fun h9 => ?_) (fun h9 => ?_)
      · refine s_if0 rfl (zb_eq0 h9) ?_
        refine s_const rfl ?_
        refine s_goto rfl ?_
        exact s_retI rfl rfl hT7 (fun _ _ h => h)
      · refine s_if1 rfl (zb_eq1 h9) ?_
        refine s_aload rfl rfl ?_
        refine s_lconst (x := 119) rfl rfl ?_
        refine s_callZ [.ref o0, .long 119] [] rfl rfl (Nat.le_of_ble_eq_true rfl) (ev_196 (d := d) (by omega) hT7 ho0) (fun r11 w10 hT10 => ?_)
        refine sp_ite (fun h12 => ?_) (fun h12 => ?_)
        · refine s_if0 rfl (zb_eq0 h12) ?_
          refine s_const rfl ?_
          refine s_goto rfl ?_
          exact s_retI rfl rfl hT10 (fun _ _ h => h)
        · refine s_if1 rfl (zb_eq1 h12) ?_
          refine s_const rfl ?_
          exact s_retI rfl rfl hT10 (fun _ _ h => h)
/-- RugReaderModel.besideOf(IIII)I -/
def sh_207 (p0 : Int32) (p1 : Int32) (p2 : Int32) (p3 : Int32) (w : Wd) : Option (Int32 × Wd) := lt (if p1 = 1 then 1 else (if p1 = 3 then (-1) else 0) : Int32) (fun z1 => lt ((zrem p0 12) + z1 : Int32) (fun v4_2 => lt (if p1 = 2 then 1 else (if p1 = 0 then (-1) else 0) : Int32) (fun z3 => lt ((p0 / 12) + z3 : Int32) (fun v5_4 => cl (sh_199 v4_2 0 (p2 - 1) w) (fun r6 w5 => if r6 = true then (cl (sh_199 v5_4 0 (p3 - 1) w5) (fun r9 w8 => if r9 = true then (some ((12 * v5_4) + v4_2, w8)) else (some ((-1), w8)))) else (some ((-1), w5)))))))
set_option maxRecDepth 20000 in
set_option maxHeartbeats 4000000 in
theorem ev_207 {d : Nat} (hd : 2 ≤ d) {p0 : Int32} {p1 : Int32} {p2 : Int32} {p3 : Int32} {w : Wd} (hT : TY w)  : sp (sh_207 p0 p1 p2 p3 w) (fun r w' => TY w' ∧ Ev d 207 [.int p0, .int p1, .int p2, .int p3] w (cvI r) w') := by
  obtain ⟨d, rfl⟩ : ∃ d', d = d' + 1 := ⟨d - 1, by omega⟩
  refine ev_of (M := M207) zin_207 rfl (by decide) rfl (Nat.le_of_ble_eq_true rfl) (Or.inl rfl) hT ?_
  show sp _ (PP (Ev d) M207 (KR cvI) (0, [(0, .int p0), (1, .int p1), (2, .int p2), (3, .int p3)], [], w))
  unfold sh_207
  refine s_iload rfl rfl ?_
  refine s_const rfl ?_
  refine s_rem rfl (by decide) ?_
  refine s_iload rfl rfl ?_
  refine s_const rfl ?_
  refine sp_lt (fun z1 hz1 => ?_)
  refine s_dia (23, [(0, .int p0), (1, .int p1), (2, .int p2), (3, .int p3)], [.int z1, .int (zrem p0 12)], w) ?_ (fun hk14 => ?_)
  · refine s_bin rfl rfl ?_
    refine s_nmI (fun v4_2 => ?_)
    refine s_istoreF [(0, .int p0), (1, .int p1), (2, .int p2), (3, .int p3), (4, .int v4_2)] rfl (subl_c rfl (subl_c rfl (subl_c rfl (subl_c rfl (subl_c rfl (subl_n)))))) ?_
    refine s_iload rfl rfl ?_
    refine s_const rfl ?_
    refine s_div rfl (by decide) ?_
    refine s_iload rfl rfl ?_
    refine s_const rfl ?_
    refine sp_lt (fun z3 hz3 => ?_)
    refine s_dia (48, [(0, .int p0), (1, .int p1), (2, .int p2), (3, .int p3), (4, .int v4_2)], [.int z3, .int (p0 / 12)], w) ?_ (fun hk11 => ?_)
    · refine s_bin rfl rfl ?_
      refine s_nmI (fun v5_4 => ?_)
      refine s_istoreF [(2, .int p2), (3, .int p3), (4, .int v4_2), (5, .int v5_4)] rfl (subl_c rfl (subl_c rfl (subl_c rfl (subl_c rfl (subl_n))))) ?_
      refine s_iload rfl rfl ?_
      refine s_const rfl ?_
      refine s_iload rfl rfl ?_
      refine s_const rfl ?_
      refine s_bin rfl rfl ?_
      refine s_callZ [.int v4_2, .int 0, .int (p2 - 1)] [] rfl rfl (Nat.le_of_ble_eq_true rfl) (ev_199 (d := d) (by omega) hT ) (fun r6 w5 hT5 => ?_)
      refine sp_ite (fun h7 => ?_) (fun h7 => ?_)
      · refine s_if0 rfl (zb_eq0 h7) ?_
        refine s_iload rfl rfl ?_
        refine s_const rfl ?_
        refine s_iload rfl rfl ?_
        refine s_const rfl ?_
        refine s_bin rfl rfl ?_
        refine s_callZ [.int v5_4, .int 0, .int (p3 - 1)] [] rfl rfl (Nat.le_of_ble_eq_true rfl) (ev_199 (d := d) (by omega) hT5 ) (fun r9 w8 hT8 => ?_)
        refine sp_ite (fun h10 => ?_) (fun h10 => ?_)
        · refine s_if0 rfl (zb_eq0 h10) ?_
          refine s_const rfl ?_
          refine s_iload rfl rfl ?_
          refine s_bin rfl rfl ?_
          refine s_iload rfl rfl ?_
          refine s_bin rfl rfl ?_
          refine s_goto rfl ?_
          exact s_retI rfl rfl hT8 (fun _ _ h => h)
        · refine s_if1 rfl (zb_eq1 h10) ?_
          refine s_const rfl ?_
          exact s_retI rfl rfl hT8 (fun _ _ h => h)
      · refine s_if1 rfl (zb_eq1 h7) ?_
        refine s_const rfl ?_
        exact s_retI rfl rfl hT5 (fun _ _ h => h)
    · by_cases h12 : p1 = 2
      · refine s_ic0 rfl (zc_ne0 h12) ?_
        refine s_const rfl ?_
        refine s_goto rfl ?_
        refine s_cong ?_ hk11
        (rw [hz3, if_pos h12])
      · refine s_ic1 rfl (zc_ne1 h12) ?_
        refine s_iload rfl rfl ?_
        by_cases h13 : p1 = 0
        · refine s_if0 rfl (zc_ne0 h13) ?_
          refine s_const rfl ?_
          refine s_goto rfl ?_
          refine s_cong ?_ hk11
          (rw [hz3, if_neg h12, if_pos h13])
        · refine s_if1 rfl (zc_ne1 h13) ?_
          refine s_const rfl ?_
          refine s_cong ?_ hk11
          (rw [hz3, if_neg h12, if_neg h13])
  · by_cases h15 : p1 = 1
    · refine s_ic0 rfl (zc_ne0 h15) ?_
      refine s_const rfl ?_
      refine s_goto rfl ?_
      refine s_cong ?_ hk14
      (rw [hz1, if_pos h15])
    · refine s_ic1 rfl (zc_ne1 h15) ?_
      refine s_iload rfl rfl ?_
      refine s_const rfl ?_
      by_cases h16 : p1 = 3
      · refine s_ic0 rfl (zc_ne0 h16) ?_
        refine s_const rfl ?_
        refine s_goto rfl ?_
        refine s_cong ?_ hk14
        (rw [hz1, if_neg h15, if_pos h16])
      · refine s_ic1 rfl (zc_ne1 h16) ?_
        refine s_const rfl ?_
        refine s_cong ?_ hk14
        (rw [hz1, if_neg h15, if_neg h16])
/-- RugReaderModel.readWay()Z -/
def sh_204 (o0 : Nat) (w : Wd) : Option (Bool × Wd) := gd (ib 3 429) (lt (wI w (o0 + 3) (ix 3) : Int32) (fun v1_1 => if v1_1 = 6 then (cl (sh_197 o0 4 w) (fun r4 w3 => some (r4, w3))) else (cl (sh_191 o0 w) (fun _ w5 => cl (sh_200 o0 (18 + v1_1) w5) (fun r8 w7 => if r8 = true then (cl (sh_203 o0 w7) (fun r11 w10 => if r11 = true then (gd (ib (25 + (wI w10 o0 18)) 429) (if wI w10 (o0 + 3) (ix (25 + (wI w10 o0 18))) = 1 then (cl (sh_197 o0 5 w10) (fun r15 w14 => some (r15, w14))) else (lt (183 + (41 * v1_1) : Int32) (fun v2_16 => gd (ib v2_16 429) (stI w10 (o0 + 3) (ix v2_16) (wI w10 o0 18) (fun w17 => cl (sh_191 o0 w17) (fun _ w18 => itM (fun (v3_20 : Int32) (w22 : Wd) => cl (sh_205 o0 59 w22) (fun r24 w23 => if r24 = true then (gd (ib (177 + v1_1) 429) (stI w23 (o0 + 3) (ix (177 + v1_1)) v3_20 (fun w26 => gd (ib 3 429) (gd (ib 3 429) (stI w26 (o0 + 3) (ix 3) ((wI w26 (o0 + 3) (ix 3)) + 1) (fun w27 => some (.inr (true), w27))))))) else (cl (sh_206 o0 w23) (fun r29 w28 => if r29 < 0 then (cl (sh_197 o0 1 w28) (fun r32 w31 => some (.inr (r32), w31))) else (cl (sh_191 o0 w28) (fun _ w33 => if wI w33 o0 11 = 2 then (cl (sh_199 (wI w33 o0 14) 1 11 w33) (fun r37 w36 => if r37 = true then (if 41 < v3_20 + (wI w36 o0 14) then (cl (sh_197 o0 4 w36) (fun r41 w40 => some (.inr (r41), w40))) else (itM (fun (s60 : Int32 × Int32) (w45 : Wd) => match s60 with | (v3_42, v5_43) => if v5_43 < wI w45 o0 14 then (gd (ib ((v2_16 + v3_42) - 1) 429) (gd (ib 0 429) (gd (ib 1 429) (cl (sh_207 (wI w45 (o0 + 3) (ix ((v2_16 + v3_42) - 1))) r29 (wI w45 (o0 + 3) (ix 0)) (wI w45 (o0 + 3) (ix 1)) w45) (fun r48 w47 => if 0 ≤ r48 then (gd (ib (25 + r48) 429) (if wI w47 (o0 + 3) (ix (25 + r48)) = 1 then (cl (sh_197 o0 5 w47) (fun r52 w51 => some (.inr (.inr (r52)), w51))) else (gd (ib (v2_16 + v3_42) 429) (stI w47 (o0 + 3) (ix (v2_16 + v3_42)) r48 (fun w53 => lt (v3_42 + 1 : Int32) (fun v3_54 => lt (v5_43 + 1 : Int32) (fun v5_55 => some (.inl (v3_54, v5_55), w53)))))))) else (cl (sh_197 o0 5 w47) (fun r57 w56 => some (.inr (.inr (r57)), w56)))))))) else (cl (sh_191 o0 w45) (fun _ w58 => some (.inr (.inl v3_42), w58)))) FU (v3_20, 0) w36)) else (cl (sh_197 o0 2 w36) (fun r62 w61 => some (.inr (r62), w61))))) else (cl (sh_197 o0 1 w33) (fun r64 w63 => some (.inr (r64), w63))))))))) FU 1 w18))))))) else (some (false, w10)))) else (some (false, w7)))))))
set_option maxRecDepth 20000 in
set_option maxHeartbeats 4000000 in
theorem ev_204 {d : Nat} (hd : 5 ≤ d) {o0 : Nat} {w : Wd} (hT : TY w) (ho0 : ist o0 10) : sp (sh_204 o0 w) (fun r w' => TY w' ∧ Ev d 204 [.ref o0] w (cvZ r) w') := by
  obtain ⟨d, rfl⟩ : ∃ d', d = d' + 1 := ⟨d - 1, by omega⟩
  refine ev_of (M := M204) zin_204 rfl (by decide) rfl (Nat.le_of_ble_eq_true rfl) (Or.inr ⟨o0, _, rfl, ho0⟩) hT ?_
  show sp _ (PP (Ev d) M204 (KR cvZ) (0, [(0, .ref o0)], [], w))
  unfold sh_204
  refine s_aload rfl rfl ?_
  refine s_getF rfl hT ho0 rfl ?_
  refine s_const rfl ?_
  refine s_iald rfl hT (of_10_7 ho0) ?_
  refine s_nmI (fun v1_1 => ?_)
  refine s_istoreF [(0, .ref o0), (1, .int v1_1)] rfl (subl_c rfl (subl_c rfl (subl_n))) ?_
  refine s_iload rfl rfl ?_
  refine s_const rfl ?_
  refine sp_ite (fun h2 => ?_) (fun h2 => ?_)
  · refine s_ic0 rfl (zc_ne0 h2) ?_
    refine s_aload rfl rfl ?_
    refine s_const rfl ?_
    refine s_callZ [.ref o0, .int 4] [] rfl rfl (Nat.le_of_ble_eq_true rfl) (ev_197 (d := d) (by omega) hT ho0) (fun r4 w3 hT3 => ?_)
    exact s_retZ (z := r4) rfl rfl hT3 (fun _ _ h => h)
  · refine s_ic1 rfl (zc_ne1 h2) ?_
    refine s_aload rfl rfl ?_
    refine s_callV [.ref o0] [] rfl rfl (Nat.le_of_ble_eq_true rfl) (ev_191 (d := d) (by omega) hT ho0) (fun _ w5 hT5 => ?_)
    refine s_aload rfl rfl ?_
    refine s_const rfl ?_
    refine s_iload rfl rfl ?_
    refine s_bin rfl rfl ?_
    refine s_callZ [.ref o0, .int (18 + v1_1)] [] rfl rfl (Nat.le_of_ble_eq_true rfl) (ev_200 (d := d) (by omega) hT5 ho0) (fun r8 w7 hT7 => ?_)
    refine sp_ite (fun h9 => ?_) (fun h9 => ?_)
    · refine s_if1 rfl (zb_ne1 h9) ?_
      refine s_aload rfl rfl ?_
      refine s_callZ [.ref o0] [] rfl rfl (Nat.le_of_ble_eq_true rfl) (ev_203 (d := d) (by omega) hT7 ho0) (fun r11 w10 hT10 => ?_)
      refine sp_ite (fun h12 => ?_) (fun h12 => ?_)
      · refine s_if1 rfl (zb_ne1 h12) ?_
        refine s_aload rfl rfl ?_
        refine s_getF rfl hT10 ho0 rfl ?_
        refine s_const rfl ?_
        refine s_aload rfl rfl ?_
        refine s_getI rfl hT10 ho0 ?_
        refine s_bin rfl rfl ?_
        refine s_iald rfl hT10 (of_10_7 ho0) ?_
        refine s_const rfl ?_
        refine sp_ite (fun h13 => ?_) (fun h13 => ?_)
        · refine s_ic0 rfl (zc_ne0 h13) ?_
          refine s_aload rfl rfl ?_
          refine s_const rfl ?_
          refine s_callZ [.ref o0, .int 5] [] rfl rfl (Nat.le_of_ble_eq_true rfl) (ev_197 (d := d) (by omega) hT10 ho0) (fun r15 w14 hT14 => ?_)
          exact s_retZ (z := r15) rfl rfl hT14 (fun _ _ h => h)
        · refine s_ic1 rfl (zc_ne1 h13) ?_
          refine s_const rfl ?_
          refine s_const rfl ?_
          refine s_iload rfl rfl ?_
          refine s_bin rfl rfl ?_
          refine s_bin rfl rfl ?_
          refine s_nmI (fun v2_16 => ?_)
          refine s_istoreF [(0, .ref o0), (1, .int v1_1), (2, .int v2_16)] rfl (subl_c rfl (subl_c rfl (subl_c rfl (subl_n)))) ?_
          refine s_aload rfl rfl ?_
          refine s_getF rfl hT10 ho0 rfl ?_
          refine s_iload rfl rfl ?_
          refine s_aload rfl rfl ?_
          refine s_getI rfl hT10 ho0 ?_
          refine s_iast rfl hT10 (of_10_7 ho0) (fun w17 hT17 => ?_)
          refine s_const rfl ?_
          refine s_istoreF [(0, .ref o0), (1, .int v1_1), (2, .int v2_16), (3, .int 1)] rfl (subl_c rfl (subl_c rfl (subl_c rfl (subl_c rfl (subl_n))))) ?_
          refine s_aload rfl rfl ?_
          refine s_callV [.ref o0] [] rfl rfl (Nat.le_of_ble_eq_true rfl) (ev_191 (d := d) (by omega) hT17 ho0) (fun _ w18 hT18 => ?_)
          let lvL21 : Int32 → List (Nat × Value) := fun s65 => [(0, .ref o0), (1, .int v1_1), (2, .int v2_16), (3, .int s65)]
          refine s_loop lvL21 (subl_c rfl (subl_c rfl (subl_c rfl (subl_c rfl (subl_n))))) hT18 (fun v3_20 w22 hT22 => ?_)
          show sp _ (PP _ _ _ (92, [(0, .ref o0), (1, .int v1_1), (2, .int v2_16), (3, .int v3_20)], [], w22))
          refine s_aload rfl rfl ?_
          refine s_const rfl ?_
          refine s_callZ [.ref o0, .int 59] [] rfl rfl (Nat.le_of_ble_eq_true rfl) (ev_205 (d := d) (by omega) hT22 ho0) (fun r24 w23 hT23 => ?_)
          refine sp_ite (fun h25 => ?_) (fun h25 => ?_)
          · refine s_if1 rfl (zb_ne1 h25) ?_
            refine s_aload rfl rfl ?_
            refine s_getF rfl hT23 ho0 rfl ?_
            refine s_const rfl ?_
            refine s_iload rfl rfl ?_
            refine s_bin rfl rfl ?_
            refine s_iload rfl rfl ?_
            refine s_iast rfl hT23 (of_10_7 ho0) (fun w26 hT26 => ?_)
            refine s_aload rfl rfl ?_
            refine s_getF rfl hT26 ho0 rfl ?_
            refine s_const rfl ?_
            refine s_dup2 rfl ⟨rfl, rfl⟩ ?_
            refine s_iald rfl hT26 (of_10_7 ho0) ?_
            refine s_const rfl ?_
            refine s_bin rfl rfl ?_
            refine s_iast rfl hT26 (of_10_7 ho0) (fun w27 hT27 => ?_)
            refine s_const rfl ?_
            exact s_retZ (z := true) rfl rfl hT27 (fun _ _ h => h)
          · refine s_if0 rfl (zb_ne0 h25) ?_
            refine s_aload rfl rfl ?_
            refine s_callI [.ref o0] [] rfl rfl (Nat.le_of_ble_eq_true rfl) (ev_206 (d := d) (by omega) hT23 ho0) (fun r29 w28 hT28 => ?_)
            refine s_istoreF [(0, .ref o0), (1, .int v1_1), (2, .int v2_16), (3, .int v3_20), (4, .int r29)] rfl (subl_c rfl (subl_c rfl (subl_c rfl (subl_c rfl (subl_c rfl (subl_n)))))) ?_
            refine s_iload rfl rfl ?_
            refine sp_ite (fun h30 => ?_) (fun h30 => ?_)
            · refine s_if0 rfl (zc_ge0 h30) ?_
              refine s_aload rfl rfl ?_
              refine s_const rfl ?_
              refine s_callZ [.ref o0, .int 1] [] rfl rfl (Nat.le_of_ble_eq_true rfl) (ev_197 (d := d) (by omega) hT28 ho0) (fun r32 w31 hT31 => ?_)
              exact s_retZ (z := r32) rfl rfl hT31 (fun _ _ h => h)
            · refine s_if1 rfl (zc_ge1 h30) ?_
              refine s_aload rfl rfl ?_
              refine s_callV [.ref o0] [] rfl rfl (Nat.le_of_ble_eq_true rfl) (ev_191 (d := d) (by omega) hT28 ho0) (fun _ w33 hT33 => ?_)
              refine s_aload rfl rfl ?_
              refine s_getI rfl hT33 ho0 ?_
              refine s_const rfl ?_
              refine sp_ite (fun h35 => ?_) (fun h35 => ?_)
              · refine s_ic1 rfl (zc_eq1 h35) ?_
                refine s_aload rfl rfl ?_
                refine s_getI rfl hT33 ho0 ?_
                refine s_const rfl ?_
                refine s_const rfl ?_
                refine s_callZ [.int (wI w33 o0 14), .int 1, .int 11] [] rfl rfl (Nat.le_of_ble_eq_true rfl) (ev_199 (d := d) (by omega) hT33 ) (fun r37 w36 hT36 => ?_)
                refine sp_ite (fun h38 => ?_) (fun h38 => ?_)
                · refine s_if1 rfl (zb_ne1 h38) ?_
                  refine s_iload rfl rfl ?_
                  refine s_aload rfl rfl ?_
                  refine s_getI rfl hT36 ho0 ?_
                  refine s_bin rfl rfl ?_
                  refine s_const rfl ?_
                  refine sp_ite (fun h39 => ?_) (fun h39 => ?_)
                  · refine s_ic0 rfl (zc_le0 h39) ?_
                    refine s_aload rfl rfl ?_
                    refine s_const rfl ?_
                    refine s_callZ [.ref o0, .int 4] [] rfl rfl (Nat.le_of_ble_eq_true rfl) (ev_197 (d := d) (by omega) hT36 ho0) (fun r41 w40 hT40 => ?_)
                    exact s_retZ (z := r41) rfl rfl hT40 (fun _ _ h => h)
                  · refine s_ic1 rfl (zc_le1 h39) ?_
                    refine s_const rfl ?_
                    refine s_istoreF [(0, .ref o0), (1, .int v1_1), (2, .int v2_16), (3, .int v3_20), (4, .int r29), (5, .int 0)] rfl (subl_c rfl (subl_c rfl (subl_c rfl (subl_c rfl (subl_c rfl (subl_c rfl (subl_n))))))) ?_
                    let lvL44 : Int32 × Int32 → List (Nat × Value) := fun s60 => [(0, .ref o0), (1, .int v1_1), (2, .int v2_16), (3, .int (s60.1)), (4, .int r29), (5, .int (s60.2))]
                    refine s_loop lvL44 (subl_c rfl (subl_c rfl (subl_c rfl (subl_c rfl (subl_c rfl (subl_c rfl (subl_n))))))) hT36 (fun s60 w45 hT45 => ?_)
                    obtain ⟨v3_42, v5_43⟩ := s60
                    show sp _ (PP _ _ _ (175, [(0, .ref o0), (1, .int v1_1), (2, .int v2_16), (3, .int v3_42), (4, .int r29), (5, .int v5_43)], [], w45))
                    refine s_iload rfl rfl ?_
                    refine s_aload rfl rfl ?_
                    refine s_getI rfl hT45 ho0 ?_
                    refine sp_ite (fun h46 => ?_) (fun h46 => ?_)
                    · refine s_ic0 rfl (zc_ge0 h46) ?_
                      refine s_aload rfl rfl ?_
                      refine s_getF rfl hT45 ho0 rfl ?_
                      refine s_iload rfl rfl ?_
                      refine s_iload rfl rfl ?_
                      refine s_bin rfl rfl ?_
                      refine s_const rfl ?_
                      refine s_bin rfl rfl ?_
                      refine s_iald rfl hT45 (of_10_7 ho0) ?_
                      refine s_iload rfl rfl ?_
                      refine s_aload rfl rfl ?_
                      refine s_getF rfl hT45 ho0 rfl ?_
                      refine s_const rfl ?_
                      refine s_iald rfl hT45 (of_10_7 ho0) ?_
                      refine s_aload rfl rfl ?_
                      refine s_getF rfl hT45 ho0 rfl ?_
                      refine s_const rfl ?_
                      refine s_iald rfl hT45 (of_10_7 ho0) ?_
                      refine s_callI [.int (wI w45 (o0 + 3) (ix ((v2_16 + v3_42) - 1))), .int r29, .int (wI w45 (o0 + 3) (ix 0)), .int (wI w45 (o0 + 3) (ix 1))] [] rfl rfl (Nat.le_of_ble_eq_true rfl) (ev_207 (d := d) (by omega) hT45 ) (fun r48 w47 hT47 => ?_)
                      refine s_istoreF [(0, .ref o0), (1, .int v1_1), (2, .int v2_16), (3, .int v3_42), (4, .int r29), (5, .int v5_43), (6, .int r48)] rfl (subl_c rfl (subl_c rfl (subl_c rfl (subl_c rfl (subl_c rfl (subl_c rfl (subl_c rfl (subl_n)))))))) ?_
                      refine s_iload rfl rfl ?_
                      refine sp_ite (fun h49 => ?_) (fun h49 => ?_)
                      · refine s_if0 rfl (zc_lt0 h49) ?_
                        refine s_aload rfl rfl ?_
                        refine s_getF rfl hT47 ho0 rfl ?_
                        refine s_const rfl ?_
                        refine s_iload rfl rfl ?_
                        refine s_bin rfl rfl ?_
                        refine s_iald rfl hT47 (of_10_7 ho0) ?_
                        refine s_const rfl ?_
                        refine sp_ite (fun h50 => ?_) (fun h50 => ?_)
                        · refine s_ic0 rfl (zc_ne0 h50) ?_
                          refine s_aload rfl rfl ?_
                          refine s_const rfl ?_
                          refine s_callZ [.ref o0, .int 5] [] rfl rfl (Nat.le_of_ble_eq_true rfl) (ev_197 (d := d) (by omega) hT47 ho0) (fun r52 w51 hT51 => ?_)
                          exact s_retZ (z := r52) rfl rfl hT51 (fun _ _ h => h)
                        · refine s_ic1 rfl (zc_ne1 h50) ?_
                          refine s_aload rfl rfl ?_
                          refine s_getF rfl hT47 ho0 rfl ?_
                          refine s_iload rfl rfl ?_
                          refine s_iload rfl rfl ?_
                          refine s_bin rfl rfl ?_
                          refine s_iload rfl rfl ?_
                          refine s_iast rfl hT47 (of_10_7 ho0) (fun w53 hT53 => ?_)
                          refine s_iincF (fun v3_54 => [(0, .ref o0), (1, .int v1_1), (2, .int v2_16), (3, .int v3_54), (4, .int r29), (5, .int v5_43)]) rfl rfl (fun _ => subl_c rfl (subl_c rfl (subl_c rfl (subl_c rfl (subl_c rfl (subl_c rfl (subl_n))))))) (fun v3_54 => ?_)
                          refine s_iincF (fun v5_55 => [(0, .ref o0), (1, .int v1_1), (2, .int v2_16), (3, .int v3_54), (4, .int r29), (5, .int v5_55)]) rfl rfl (fun _ => subl_c rfl (subl_c rfl (subl_c rfl (subl_c rfl (subl_c rfl (subl_c rfl (subl_n))))))) (fun v5_55 => ?_)
                          refine s_goto rfl ?_
                          exact s_back (lvL := lvL44) (s' := (v3_54, v5_55)) (subl_c rfl (subl_c rfl (subl_c rfl (subl_c rfl (subl_c rfl (subl_c rfl (subl_n))))))) hT53 (fun _ _ h => h)
                      · refine s_if1 rfl (zc_lt1 h49) ?_
                        refine s_aload rfl rfl ?_
                        refine s_const rfl ?_
                        refine s_callZ [.ref o0, .int 5] [] rfl rfl (Nat.le_of_ble_eq_true rfl) (ev_197 (d := d) (by omega) hT47 ho0) (fun r57 w56 hT56 => ?_)
                        exact s_retZ (z := r57) rfl rfl hT56 (fun _ _ h => h)
                    · refine s_ic1 rfl (zc_ge1 h46) ?_
                      refine s_aload rfl rfl ?_
                      refine s_callV [.ref o0] [] rfl rfl (Nat.le_of_ble_eq_true rfl) (ev_191 (d := d) (by omega) hT45 ho0) (fun _ w58 hT58 => ?_)
                      refine s_goto rfl ?_
                      exact s_back (lvL := lvL21) (s' := v3_42) (subl_c rfl (subl_c rfl (subl_c rfl (subl_c rfl (subl_n))))) hT58 (fun _ _ h => h)
                · refine s_if0 rfl (zb_ne0 h38) ?_
                  refine s_aload rfl rfl ?_
                  refine s_const rfl ?_
                  refine s_callZ [.ref o0, .int 2] [] rfl rfl (Nat.le_of_ble_eq_true rfl) (ev_197 (d := d) (by omega) hT36 ho0) (fun r62 w61 hT61 => ?_)
                  exact s_retZ (z := r62) rfl rfl hT61 (fun _ _ h => h)
              · refine s_ic0 rfl (zc_eq0 h35) ?_
                refine s_aload rfl rfl ?_
                refine s_const rfl ?_
                refine s_callZ [.ref o0, .int 1] [] rfl rfl (Nat.le_of_ble_eq_true rfl) (ev_197 (d := d) (by omega) hT33 ho0) (fun r64 w63 hT63 => ?_)
                exact s_retZ (z := r64) rfl rfl hT63 (fun _ _ h => h)
      · refine s_if0 rfl (zb_ne0 h12) ?_
        refine s_const rfl ?_
        exact s_retZ (z := false) rfl rfl hT10 (fun _ _ h => h)
    · refine s_if0 rfl (zb_ne0 h9) ?_
      refine s_const rfl ?_
      exact s_retZ (z := false) rfl rfl hT7 (fun _ _ h => h)
/-- RugReaderModel.line()Z -/
def sh_195 (o0 : Nat) (w : Wd) : Option (Bool × Wd) := cl (sh_196 o0 7501159 w) (fun r2 w1 => if r2 = true then (if wI w1 o0 20 = 0 then (stI w1 o0 20 1 (fun w5 => cl (sh_191 o0 w5) (fun _ w6 => itM (fun (v1_8 : Int32) (w10 : Wd) => if v1_8 < 2 then (cl (sh_198 o0 2 12 w10) (fun r13 w12 => if r13 = true then (gd (ib (0 + v1_8) 429) (stI w12 (o0 + 3) (ix (0 + v1_8)) (wI w12 o0 18) (fun w15 => lt (v1_8 + 1 : Int32) (fun v1_16 => some (.inl v1_16, w15))))) else (some (.inr (false), w12)))) else (some (.inr (true), w10))) FU 0 w6))) else (cl (sh_197 o0 3 w1) (fun r19 w18 => some (r19, w18)))) else (cl (sh_196 o0 123581014175598 w1) (fun r21 w20 => if r21 = true then (gd (ib 2 429) (lt (wI w20 (o0 + 3) (ix 2) : Int32) (fun v1_23 => if v1_23 = 6 then (cl (sh_197 o0 4 w20) (fun r26 w25 => some (r26, w25))) else (cl (sh_191 o0 w20) (fun _ w27 => cl (sh_200 o0 (12 + v1_23) w27) (fun r30 w29 => if r30 = true then (cl (sh_198 o0 1 9 w29) (fun r33 w32 => if r33 = true then (gd (ib (7 + v1_23) 429) (stI w32 (o0 + 3) (ix (7 + v1_23)) (wI w32 o0 18) (fun w35 => cl (sh_198 o0 0 9 w35) (fun r37 w36 => if r37 = true then (gd (ib (13 + v1_23) 429) (stI w36 (o0 + 3) (ix (13 + v1_23)) (wI w36 o0 18) (fun w39 => cl (sh_198 o0 1 9 w39) (fun r41 w40 => if r41 = true then (gd (ib (19 + v1_23) 429) (stI w40 (o0 + 3) (ix (19 + v1_23)) (wI w40 o0 18) (fun w43 => gd (ib 2 429) (gd (ib 2 429) (stI w43 (o0 + 3) (ix 2) ((wI w43 (o0 + 3) (ix 2)) + 1) (fun w44 => some (true, w44))))))) else (some (false, w40)))))) else (some (false, w36)))))) else (some (false, w32)))) else (some (false, w29)))))))) else (cl (sh_196 o0 2002873452 w20) (fun r46 w45 => if r46 = true then (gd (ib 4 429) (if wI w45 (o0 + 3) (ix 4) = 30 then (cl (sh_197 o0 4 w45) (fun r50 w49 => some (r50, w49))) else (cl (sh_191 o0 w45) (fun _ w51 => cl (sh_203 o0 w51) (fun r54 w53 => if r54 = true then (gd (ib (25 + (wI w53 o0 18)) 429) (if wI w53 (o0 + 3) (ix (25 + (wI w53 o0 18))) = 1 then (cl (sh_197 o0 3 w53) (fun r58 w57 => some (r58, w57))) else (gd (ib (25 + (wI w53 o0 18)) 429) (stI w53 (o0 + 3) (ix (25 + (wI w53 o0 18))) 1 (fun w59 => gd (ib 4 429) (gd (ib 4 429) (stI w59 (o0 + 3) (ix 4) ((wI w59 (o0 + 3) (ix 4)) + 1) (fun w60 => cl (sh_191 o0 w60) (fun _ w61 => some (true, w61)))))))))) else (some (false, w53))))))) else (cl (sh_196 o0 1685024626 w45) (fun r64 w63 => if r64 = true then (gd (ib 5 429) (if wI w63 (o0 + 3) (ix 5) = 8 then (cl (sh_197 o0 4 w63) (fun r68 w67 => some (r68, w67))) else (cl (sh_191 o0 w63) (fun _ w69 => cl (sh_203 o0 w69) (fun r72 w71 => if r72 = true then (itM (fun (v1_74 : Int32) (w76 : Wd) => gd (ib 5 429) (if v1_74 < wI w76 (o0 + 3) (ix 5) then (gd (ib (169 + v1_74) 429) (if wI w76 (o0 + 3) (ix (169 + v1_74)) = wI w76 o0 18 then (cl (sh_197 o0 3 w76) (fun r80 w79 => some (.inr (r80), w79))) else (lt (v1_74 + 1 : Int32) (fun v1_81 => some (.inl v1_81, w76))))) else (gd (ib 5 429) (gd (ib (169 + (wI w76 (o0 + 3) (ix 5))) 429) (stI w76 (o0 + 3) (ix (169 + (wI w76 (o0 + 3) (ix 5)))) (wI w76 o0 18) (fun w82 => gd (ib 5 429) (gd (ib 5 429) (stI w82 (o0 + 3) (ix 5) ((wI w82 (o0 + 3) (ix 5)) + 1) (fun w83 => cl (sh_191 o0 w83) (fun _ w84 => some (.inr (true), w84))))))))))) FU 0 w71) else (some (false, w71))))))) else (cl (sh_196 o0 7823737 w63) (fun r88 w87 => if r88 = true then (cl (sh_204 o0 w87) (fun r91 w90 => some (r91, w90))) else (cl (sh_196 o0 1717658725 w87) (fun r93 w92 => if r93 = true then (if wI w92 o0 21 = 0 then (stI w92 o0 21 1 (fun w96 => cl (sh_191 o0 w96) (fun _ w97 => cl (sh_198 o0 1 9 w97) (fun r100 w99 => if r100 = true then (gd (ib 6 429) (stI w99 (o0 + 3) (ix 6) (wI w99 o0 18) (fun w102 => some (true, w102)))) else (some (false, w99)))))) else (cl (sh_197 o0 3 w92) (fun r104 w103 => some (r104, w103)))) else (cl (sh_197 o0 1 w92) (fun r106 w105 => some (r106, w105))))))))))))))
set_option maxRecDepth 20000 in
set_option maxHeartbeats 4000000 in
theorem ev_195 {d : Nat} (hd : 6 ≤ d) {o0 : Nat} {w : Wd} (hT : TY w) (ho0 : ist o0 10) : sp (sh_195 o0 w) (fun r w' => TY w' ∧ Ev d 195 [.ref o0] w (cvZ r) w') := by
  obtain ⟨d, rfl⟩ : ∃ d', d = d' + 1 := ⟨d - 1, by omega⟩
  refine ev_of (M := M195) zin_195 rfl (by decide) rfl (Nat.le_of_ble_eq_true rfl) (Or.inr ⟨o0, _, rfl, ho0⟩) hT ?_
  show sp _ (PP (Ev d) M195 (KR cvZ) (0, [(0, .ref o0)], [], w))
  unfold sh_195
  refine s_aload rfl rfl ?_
  refine s_lconst (x := 7501159) rfl rfl ?_
  refine s_callZ [.ref o0, .long 7501159] [] rfl rfl (Nat.le_of_ble_eq_true rfl) (ev_196 (d := d) (by omega) hT ho0) (fun r2 w1 hT1 => ?_)
  refine sp_ite (fun h3 => ?_) (fun h3 => ?_)
  · refine s_if0 rfl (zb_eq0 h3) ?_
    refine s_aload rfl rfl ?_
    refine s_getI rfl hT1 ho0 ?_
    refine sp_ite (fun h4 => ?_) (fun h4 => ?_)
    · refine s_if1 rfl (zc_eq1 h4) ?_
      refine s_aload rfl rfl ?_
      refine s_const rfl ?_
      refine s_putZ rfl hT1 ho0 rfl (Or.inr rfl) (fun w5 hT5 => ?_)
      refine s_aload rfl rfl ?_
      refine s_callV [.ref o0] [] rfl rfl (Nat.le_of_ble_eq_true rfl) (ev_191 (d := d) (by omega) hT5 ho0) (fun _ w6 hT6 => ?_)
      refine s_const rfl ?_
      refine s_istoreF [(0, .ref o0), (1, .int 0)] rfl (subl_c rfl (subl_c rfl (subl_n))) ?_
      let lvL9 : Int32 → List (Nat × Value) := fun s17 => [(0, .ref o0), (1, .int s17)]
      refine s_loop lvL9 (subl_c rfl (subl_c rfl (subl_n))) hT6 (fun v1_8 w10 hT10 => ?_)
      show sp _ (PP _ _ _ (34, [(0, .ref o0), (1, .int v1_8)], [], w10))
      refine s_iload rfl rfl ?_
      refine s_const rfl ?_
      refine sp_ite (fun h11 => ?_) (fun h11 => ?_)
      · refine s_ic0 rfl (zc_ge0 h11) ?_
        refine s_aload rfl rfl ?_
        refine s_const rfl ?_
        refine s_const rfl ?_
        refine s_callZ [.ref o0, .int 2, .int 12] [] rfl rfl (Nat.le_of_ble_eq_true rfl) (ev_198 (d := d) (by omega) hT10 ho0) (fun r13 w12 hT12 => ?_)
        refine sp_ite (fun h14 => ?_) (fun h14 => ?_)
        · refine s_if1 rfl (zb_ne1 h14) ?_
          refine s_aload rfl rfl ?_
          refine s_getF rfl hT12 ho0 rfl ?_
          refine s_const rfl ?_
          refine s_iload rfl rfl ?_
          refine s_bin rfl rfl ?_
          refine s_aload rfl rfl ?_
          refine s_getI rfl hT12 ho0 ?_
          refine s_iast rfl hT12 (of_10_7 ho0) (fun w15 hT15 => ?_)
          refine s_iincF (fun v1_16 => [(0, .ref o0), (1, .int v1_16)]) rfl rfl (fun _ => subl_c rfl (subl_c rfl (subl_n))) (fun v1_16 => ?_)
          refine s_goto rfl ?_
          exact s_back (lvL := lvL9) (s' := v1_16) (subl_c rfl (subl_c rfl (subl_n))) hT15 (fun _ _ h => h)
        · refine s_if0 rfl (zb_ne0 h14) ?_
          refine s_const rfl ?_
          exact s_retZ (z := false) rfl rfl hT12 (fun _ _ h => h)
      · refine s_ic1 rfl (zc_ge1 h11) ?_
        refine s_const rfl ?_
        exact s_retZ (z := true) rfl rfl hT10 (fun _ _ h => h)
    · refine s_if0 rfl (zc_eq0 h4) ?_
      refine s_aload rfl rfl ?_
      refine s_const rfl ?_
      refine s_callZ [.ref o0, .int 3] [] rfl rfl (Nat.le_of_ble_eq_true rfl) (ev_197 (d := d) (by omega) hT1 ho0) (fun r19 w18 hT18 => ?_)
      exact s_retZ (z := r19) rfl rfl hT18 (fun _ _ h => h)
  · refine s_if1 rfl (zb_eq1 h3) ?_
    refine s_aload rfl rfl ?_
    refine s_lconst (x := 123581014175598) rfl rfl ?_
    refine s_callZ [.ref o0, .long 123581014175598] [] rfl rfl (Nat.le_of_ble_eq_true rfl) (ev_196 (d := d) (by omega) hT1 ho0) (fun r21 w20 hT20 => ?_)
    refine sp_ite (fun h22 => ?_) (fun h22 => ?_)
    · refine s_if0 rfl (zb_eq0 h22) ?_
      refine s_aload rfl rfl ?_
      refine s_getF rfl hT20 ho0 rfl ?_
      refine s_const rfl ?_
      refine s_iald rfl hT20 (of_10_7 ho0) ?_
      refine s_nmI (fun v1_23 => ?_)
      refine s_istoreF [(0, .ref o0), (1, .int v1_23)] rfl (subl_c rfl (subl_c rfl (subl_n))) ?_
      refine s_iload rfl rfl ?_
      refine s_const rfl ?_
      refine sp_ite (fun h24 => ?_) (fun h24 => ?_)
      · refine s_ic0 rfl (zc_ne0 h24) ?_
        refine s_aload rfl rfl ?_
        refine s_const rfl ?_
        refine s_callZ [.ref o0, .int 4] [] rfl rfl (Nat.le_of_ble_eq_true rfl) (ev_197 (d := d) (by omega) hT20 ho0) (fun r26 w25 hT25 => ?_)
        exact s_retZ (z := r26) rfl rfl hT25 (fun _ _ h => h)
      · refine s_ic1 rfl (zc_ne1 h24) ?_
        refine s_aload rfl rfl ?_
        refine s_callV [.ref o0] [] rfl rfl (Nat.le_of_ble_eq_true rfl) (ev_191 (d := d) (by omega) hT20 ho0) (fun _ w27 hT27 => ?_)
        refine s_aload rfl rfl ?_
        refine s_const rfl ?_
        refine s_iload rfl rfl ?_
        refine s_bin rfl rfl ?_
        refine s_callZ [.ref o0, .int (12 + v1_23)] [] rfl rfl (Nat.le_of_ble_eq_true rfl) (ev_200 (d := d) (by omega) hT27 ho0) (fun r30 w29 hT29 => ?_)
        refine sp_ite (fun h31 => ?_) (fun h31 => ?_)
        · refine s_if1 rfl (zb_ne1 h31) ?_
          refine s_aload rfl rfl ?_
          refine s_const rfl ?_
          refine s_const rfl ?_
          refine s_callZ [.ref o0, .int 1, .int 9] [] rfl rfl (Nat.le_of_ble_eq_true rfl) (ev_198 (d := d) (by omega) hT29 ho0) (fun r33 w32 hT32 => ?_)
          refine sp_ite (fun h34 => ?_) (fun h34 => ?_)
          · refine s_if1 rfl (zb_ne1 h34) ?_
            refine s_aload rfl rfl ?_
            refine s_getF rfl hT32 ho0 rfl ?_
            refine s_const rfl ?_
            refine s_iload rfl rfl ?_
            refine s_bin rfl rfl ?_
            refine s_aload rfl rfl ?_
            refine s_getI rfl hT32 ho0 ?_
            refine s_iast rfl hT32 (of_10_7 ho0) (fun w35 hT35 => ?_)
            refine s_aload rfl rfl ?_
            refine s_const rfl ?_
            refine s_const rfl ?_
            refine s_callZ [.ref o0, .int 0, .int 9] [] rfl rfl (Nat.le_of_ble_eq_true rfl) (ev_198 (d := d) (by omega) hT35 ho0) (fun r37 w36 hT36 => ?_)
            refine sp_ite (fun h38 => ?_) (fun h38 => ?_)
            · refine s_if1 rfl (zb_ne1 h38) ?_
              refine s_aload rfl rfl ?_
              refine s_getF rfl hT36 ho0 rfl ?_
              refine s_const rfl ?_
              refine s_iload rfl rfl ?_
              refine s_bin rfl rfl ?_
              refine s_aload rfl rfl ?_
              refine s_getI rfl hT36 ho0 ?_
              refine s_iast rfl hT36 (of_10_7 ho0) (fun w39 hT39 => ?_)
              refine s_aload rfl rfl ?_
              refine s_const rfl ?_
              refine s_const rfl ?_
              refine s_callZ [.ref o0, .int 1, .int 9] [] rfl rfl (Nat.le_of_ble_eq_true rfl) (ev_198 (d := d) (by omega) hT39 ho0) (fun r41 w40 hT40 => ?_)
              refine sp_ite (fun h42 => ?_) (fun h42 => ?_)
              · refine s_if1 rfl (zb_ne1 h42) ?_
                refine s_aload rfl rfl ?_
                refine s_getF rfl hT40 ho0 rfl ?_
                refine s_const rfl ?_
                refine s_iload rfl rfl ?_
                refine s_bin rfl rfl ?_
                refine s_aload rfl rfl ?_
                refine s_getI rfl hT40 ho0 ?_
                refine s_iast rfl hT40 (of_10_7 ho0) (fun w43 hT43 => ?_)
                refine s_aload rfl rfl ?_
                refine s_getF rfl hT43 ho0 rfl ?_
                refine s_const rfl ?_
                refine s_dup2 rfl ⟨rfl, rfl⟩ ?_
                refine s_iald rfl hT43 (of_10_7 ho0) ?_
                refine s_const rfl ?_
                refine s_bin rfl rfl ?_
                refine s_iast rfl hT43 (of_10_7 ho0) (fun w44 hT44 => ?_)
                refine s_const rfl ?_
                exact s_retZ (z := true) rfl rfl hT44 (fun _ _ h => h)
              · refine s_if0 rfl (zb_ne0 h42) ?_
                refine s_const rfl ?_
                exact s_retZ (z := false) rfl rfl hT40 (fun _ _ h => h)
            · refine s_if0 rfl (zb_ne0 h38) ?_
              refine s_const rfl ?_
              exact s_retZ (z := false) rfl rfl hT36 (fun _ _ h => h)
          · refine s_if0 rfl (zb_ne0 h34) ?_
            refine s_const rfl ?_
            exact s_retZ (z := false) rfl rfl hT32 (fun _ _ h => h)
        · refine s_if0 rfl (zb_ne0 h31) ?_
          refine s_const rfl ?_
          exact s_retZ (z := false) rfl rfl hT29 (fun _ _ h => h)
    · refine s_if1 rfl (zb_eq1 h22) ?_
      refine s_aload rfl rfl ?_
      refine s_lconst (x := 2002873452) rfl rfl ?_
      refine s_callZ [.ref o0, .long 2002873452] [] rfl rfl (Nat.le_of_ble_eq_true rfl) (ev_196 (d := d) (by omega) hT20 ho0) (fun r46 w45 hT45 => ?_)
      refine sp_ite (fun h47 => ?_) (fun h47 => ?_)
      · refine s_if0 rfl (zb_eq0 h47) ?_
        refine s_aload rfl rfl ?_
        refine s_getF rfl hT45 ho0 rfl ?_
        refine s_const rfl ?_
        refine s_iald rfl hT45 (of_10_7 ho0) ?_
        refine s_const rfl ?_
        refine sp_ite (fun h48 => ?_) (fun h48 => ?_)
        · refine s_ic0 rfl (zc_ne0 h48) ?_
          refine s_aload rfl rfl ?_
          refine s_const rfl ?_
          refine s_callZ [.ref o0, .int 4] [] rfl rfl (Nat.le_of_ble_eq_true rfl) (ev_197 (d := d) (by omega) hT45 ho0) (fun r50 w49 hT49 => ?_)
          exact s_retZ (z := r50) rfl rfl hT49 (fun _ _ h => h)
        · refine s_ic1 rfl (zc_ne1 h48) ?_
          refine s_aload rfl rfl ?_
          refine s_callV [.ref o0] [] rfl rfl (Nat.le_of_ble_eq_true rfl) (ev_191 (d := d) (by omega) hT45 ho0) (fun _ w51 hT51 => ?_)
          refine s_aload rfl rfl ?_
          refine s_callZ [.ref o0] [] rfl rfl (Nat.le_of_ble_eq_true rfl) (ev_203 (d := d) (by omega) hT51 ho0) (fun r54 w53 hT53 => ?_)
          refine sp_ite (fun h55 => ?_) (fun h55 => ?_)
          · refine s_if1 rfl (zb_ne1 h55) ?_
            refine s_aload rfl rfl ?_
            refine s_getF rfl hT53 ho0 rfl ?_
            refine s_const rfl ?_
            refine s_aload rfl rfl ?_
            refine s_getI rfl hT53 ho0 ?_
            refine s_bin rfl rfl ?_
            refine s_iald rfl hT53 (of_10_7 ho0) ?_
            refine s_const rfl ?_
            refine sp_ite (fun h56 => ?_) (fun h56 => ?_)
            · refine s_ic0 rfl (zc_ne0 h56) ?_
              refine s_aload rfl rfl ?_
              refine s_const rfl ?_
              refine s_callZ [.ref o0, .int 3] [] rfl rfl (Nat.le_of_ble_eq_true rfl) (ev_197 (d := d) (by omega) hT53 ho0) (fun r58 w57 hT57 => ?_)
              exact s_retZ (z := r58) rfl rfl hT57 (fun _ _ h => h)
            · refine s_ic1 rfl (zc_ne1 h56) ?_
              refine s_aload rfl rfl ?_
              refine s_getF rfl hT53 ho0 rfl ?_
              refine s_const rfl ?_
              refine s_aload rfl rfl ?_
              refine s_getI rfl hT53 ho0 ?_
              refine s_bin rfl rfl ?_
              refine s_const rfl ?_
              refine s_iast rfl hT53 (of_10_7 ho0) (fun w59 hT59 => ?_)
              refine s_aload rfl rfl ?_
              refine s_getF rfl hT59 ho0 rfl ?_
              refine s_const rfl ?_
              refine s_dup2 rfl ⟨rfl, rfl⟩ ?_
              refine s_iald rfl hT59 (of_10_7 ho0) ?_
              refine s_const rfl ?_
              refine s_bin rfl rfl ?_
              refine s_iast rfl hT59 (of_10_7 ho0) (fun w60 hT60 => ?_)
              refine s_aload rfl rfl ?_
              refine s_callV [.ref o0] [] rfl rfl (Nat.le_of_ble_eq_true rfl) (ev_191 (d := d) (by omega) hT60 ho0) (fun _ w61 hT61 => ?_)
              refine s_const rfl ?_
              exact s_retZ (z := true) rfl rfl hT61 (fun _ _ h => h)
          · refine s_if0 rfl (zb_ne0 h55) ?_
            refine s_const rfl ?_
            exact s_retZ (z := false) rfl rfl hT53 (fun _ _ h => h)
      · refine s_if1 rfl (zb_eq1 h47) ?_
        refine s_aload rfl rfl ?_
        refine s_lconst (x := 1685024626) rfl rfl ?_
        refine s_callZ [.ref o0, .long 1685024626] [] rfl rfl (Nat.le_of_ble_eq_true rfl) (ev_196 (d := d) (by omega) hT45 ho0) (fun r64 w63 hT63 => ?_)
        refine sp_ite (fun h65 => ?_) (fun h65 => ?_)
        · refine s_if0 rfl (zb_eq0 h65) ?_
          refine s_aload rfl rfl ?_
          refine s_getF rfl hT63 ho0 rfl ?_
          refine s_const rfl ?_
          refine s_iald rfl hT63 (of_10_7 ho0) ?_
          refine s_const rfl ?_
          refine sp_ite (fun h66 => ?_) (fun h66 => ?_)
          · refine s_ic0 rfl (zc_ne0 h66) ?_
            refine s_aload rfl rfl ?_
            refine s_const rfl ?_
            refine s_callZ [.ref o0, .int 4] [] rfl rfl (Nat.le_of_ble_eq_true rfl) (ev_197 (d := d) (by omega) hT63 ho0) (fun r68 w67 hT67 => ?_)
            exact s_retZ (z := r68) rfl rfl hT67 (fun _ _ h => h)
          · refine s_ic1 rfl (zc_ne1 h66) ?_
            refine s_aload rfl rfl ?_
            refine s_callV [.ref o0] [] rfl rfl (Nat.le_of_ble_eq_true rfl) (ev_191 (d := d) (by omega) hT63 ho0) (fun _ w69 hT69 => ?_)
            refine s_aload rfl rfl ?_
            refine s_callZ [.ref o0] [] rfl rfl (Nat.le_of_ble_eq_true rfl) (ev_203 (d := d) (by omega) hT69 ho0) (fun r72 w71 hT71 => ?_)
            refine sp_ite (fun h73 => ?_) (fun h73 => ?_)
            · refine s_if1 rfl (zb_ne1 h73) ?_
              refine s_const rfl ?_
              refine s_istoreF [(0, .ref o0), (1, .int 0)] rfl (subl_c rfl (subl_c rfl (subl_n))) ?_
              let lvL75 : Int32 → List (Nat × Value) := fun s86 => [(0, .ref o0), (1, .int s86)]
              refine s_loop lvL75 (subl_c rfl (subl_c rfl (subl_n))) hT71 (fun v1_74 w76 hT76 => ?_)
              show sp _ (PP _ _ _ (337, [(0, .ref o0), (1, .int v1_74)], [], w76))
              refine s_iload rfl rfl ?_
              refine s_aload rfl rfl ?_
              refine s_getF rfl hT76 ho0 rfl ?_
              refine s_const rfl ?_
              refine s_iald rfl hT76 (of_10_7 ho0) ?_
              refine sp_ite (fun h77 => ?_) (fun h77 => ?_)
              · refine s_ic0 rfl (zc_ge0 h77) ?_
                refine s_aload rfl rfl ?_
                refine s_getF rfl hT76 ho0 rfl ?_
                refine s_const rfl ?_
                refine s_iload rfl rfl ?_
                refine s_bin rfl rfl ?_
                refine s_iald rfl hT76 (of_10_7 ho0) ?_
                refine s_aload rfl rfl ?_
                refine s_getI rfl hT76 ho0 ?_
                refine sp_ite (fun h78 => ?_) (fun h78 => ?_)
                · refine s_ic0 rfl (zc_ne0 h78) ?_
                  refine s_aload rfl rfl ?_
                  refine s_const rfl ?_
                  refine s_callZ [.ref o0, .int 3] [] rfl rfl (Nat.le_of_ble_eq_true rfl) (ev_197 (d := d) (by omega) hT76 ho0) (fun r80 w79 hT79 => ?_)
                  exact s_retZ (z := r80) rfl rfl hT79 (fun _ _ h => h)
                · refine s_ic1 rfl (zc_ne1 h78) ?_
                  refine s_iincF (fun v1_81 => [(0, .ref o0), (1, .int v1_81)]) rfl rfl (fun _ => subl_c rfl (subl_c rfl (subl_n))) (fun v1_81 => ?_)
                  refine s_goto rfl ?_
                  exact s_back (lvL := lvL75) (s' := v1_81) (subl_c rfl (subl_c rfl (subl_n))) hT76 (fun _ _ h => h)
              · refine s_ic1 rfl (zc_ge1 h77) ?_
                refine s_aload rfl rfl ?_
                refine s_getF rfl hT76 ho0 rfl ?_
                refine s_const rfl ?_
                refine s_aload rfl rfl ?_
                refine s_getF rfl hT76 ho0 rfl ?_
                refine s_const rfl ?_
                refine s_iald rfl hT76 (of_10_7 ho0) ?_
                refine s_bin rfl rfl ?_
                refine s_aload rfl rfl ?_
                refine s_getI rfl hT76 ho0 ?_
                refine s_iast rfl hT76 (of_10_7 ho0) (fun w82 hT82 => ?_)
                refine s_aload rfl rfl ?_
                refine s_getF rfl hT82 ho0 rfl ?_
                refine s_const rfl ?_
                refine s_dup2 rfl ⟨rfl, rfl⟩ ?_
                refine s_iald rfl hT82 (of_10_7 ho0) ?_
                refine s_const rfl ?_
                refine s_bin rfl rfl ?_
                refine s_iast rfl hT82 (of_10_7 ho0) (fun w83 hT83 => ?_)
                refine s_aload rfl rfl ?_
                refine s_callV [.ref o0] [] rfl rfl (Nat.le_of_ble_eq_true rfl) (ev_191 (d := d) (by omega) hT83 ho0) (fun _ w84 hT84 => ?_)
                refine s_const rfl ?_
                exact s_retZ (z := true) rfl rfl hT84 (fun _ _ h => h)
            · refine s_if0 rfl (zb_ne0 h73) ?_
              refine s_const rfl ?_
              exact s_retZ (z := false) rfl rfl hT71 (fun _ _ h => h)
        · refine s_if1 rfl (zb_eq1 h65) ?_
          refine s_aload rfl rfl ?_
          refine s_lconst (x := 7823737) rfl rfl ?_
          refine s_callZ [.ref o0, .long 7823737] [] rfl rfl (Nat.le_of_ble_eq_true rfl) (ev_196 (d := d) (by omega) hT63 ho0) (fun r88 w87 hT87 => ?_)
          refine sp_ite (fun h89 => ?_) (fun h89 => ?_)
          · refine s_if0 rfl (zb_eq0 h89) ?_
            refine s_aload rfl rfl ?_
            refine s_callZ [.ref o0] [] rfl rfl (Nat.le_of_ble_eq_true rfl) (ev_204 (d := d) (by omega) hT87 ho0) (fun r91 w90 hT90 => ?_)
            exact s_retZ (z := r91) rfl rfl hT90 (fun _ _ h => h)
          · refine s_if1 rfl (zb_eq1 h89) ?_
            refine s_aload rfl rfl ?_
            refine s_lconst (x := 1717658725) rfl rfl ?_
            refine s_callZ [.ref o0, .long 1717658725] [] rfl rfl (Nat.le_of_ble_eq_true rfl) (ev_196 (d := d) (by omega) hT87 ho0) (fun r93 w92 hT92 => ?_)
            refine sp_ite (fun h94 => ?_) (fun h94 => ?_)
            · refine s_if1 rfl (zb_ne1 h94) ?_
              refine s_aload rfl rfl ?_
              refine s_getI rfl hT92 ho0 ?_
              refine sp_ite (fun h95 => ?_) (fun h95 => ?_)
              · refine s_if1 rfl (zc_eq1 h95) ?_
                refine s_aload rfl rfl ?_
                refine s_const rfl ?_
                refine s_putZ rfl hT92 ho0 rfl (Or.inr rfl) (fun w96 hT96 => ?_)
                refine s_aload rfl rfl ?_
                refine s_callV [.ref o0] [] rfl rfl (Nat.le_of_ble_eq_true rfl) (ev_191 (d := d) (by omega) hT96 ho0) (fun _ w97 hT97 => ?_)
                refine s_aload rfl rfl ?_
                refine s_const rfl ?_
                refine s_const rfl ?_
                refine s_callZ [.ref o0, .int 1, .int 9] [] rfl rfl (Nat.le_of_ble_eq_true rfl) (ev_198 (d := d) (by omega) hT97 ho0) (fun r100 w99 hT99 => ?_)
                refine sp_ite (fun h101 => ?_) (fun h101 => ?_)
                · refine s_if1 rfl (zb_ne1 h101) ?_
                  refine s_aload rfl rfl ?_
                  refine s_getF rfl hT99 ho0 rfl ?_
                  refine s_const rfl ?_
                  refine s_aload rfl rfl ?_
                  refine s_getI rfl hT99 ho0 ?_
                  refine s_iast rfl hT99 (of_10_7 ho0) (fun w102 hT102 => ?_)
                  refine s_const rfl ?_
                  exact s_retZ (z := true) rfl rfl hT102 (fun _ _ h => h)
                · refine s_if0 rfl (zb_ne0 h101) ?_
                  refine s_const rfl ?_
                  exact s_retZ (z := false) rfl rfl hT99 (fun _ _ h => h)
              · refine s_if0 rfl (zc_eq0 h95) ?_
                refine s_aload rfl rfl ?_
                refine s_const rfl ?_
                refine s_callZ [.ref o0, .int 3] [] rfl rfl (Nat.le_of_ble_eq_true rfl) (ev_197 (d := d) (by omega) hT92 ho0) (fun r104 w103 hT103 => ?_)
                exact s_retZ (z := r104) rfl rfl hT103 (fun _ _ h => h)
            · refine s_if0 rfl (zb_ne0 h94) ?_
              refine s_aload rfl rfl ?_
              refine s_const rfl ?_
              refine s_callZ [.ref o0, .int 1] [] rfl rfl (Nat.le_of_ble_eq_true rfl) (ev_197 (d := d) (by omega) hT92 ho0) (fun r106 w105 hT105 => ?_)
              exact s_retZ (z := r106) rfl rfl hT105 (fun _ _ h => h)
