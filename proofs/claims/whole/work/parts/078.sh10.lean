/-! printed by program (wip/whole/gen/sh.py): the methods as programs over worlds, and that the small machine does what they say -/
/-- RugReaderModel.lay(I)I -/
def sh_262 (o0 : Nat) (p1 : Int32) (w : Wd) : Option (Int32 × Wd) := stI w o0 0 0 (fun w1 => cl (sh_199 p1 0 ((wI w1 o0 42) - 1) w1) (fun r3 w2 => if r3 = true then (gd (ib p1 144) (some (wI w2 (o0 + 18) (ix p1), w2))) else (some ((-1), w2))))
set_option maxRecDepth 20000 in
set_option maxHeartbeats 4000000 in
theorem ev_262 {d : Nat} (hd : 2 ≤ d) {o0 : Nat} {p1 : Int32} {w : Wd} (hT : TY w) (ho0 : ist o0 10) : sp (sh_262 o0 p1 w) (fun r w' => TY w' ∧ Ev d 262 [.ref o0, .int p1] w (cvI r) w') := by
  obtain ⟨d, rfl⟩ : ∃ d', d = d' + 1 := ⟨d - 1, by omega⟩
  refine ev_of (M := M262) zin_262 rfl (by decide) rfl (Nat.le_of_ble_eq_true rfl) (Or.inr ⟨o0, _, rfl, ho0⟩) hT ?_
  show sp _ (PP (Ev d) M262 (KR cvI) (0, [(0, .ref o0), (1, .int p1)], [], w))
  unfold sh_262
  refine s_aload rfl rfl ?_
  refine s_const rfl ?_
  refine s_putI rfl hT ho0 rfl (fun w1 hT1 => ?_)
  refine s_iload rfl rfl ?_
  refine s_const rfl ?_
  refine s_aload rfl rfl ?_
  refine s_getI rfl hT1 ho0 ?_
  refine s_const rfl ?_
  refine s_bin rfl rfl ?_
  refine s_callZ [.int p1, .int 0, .int ((wI w1 o0 42) - 1)] [] rfl rfl (Nat.le_of_ble_eq_true rfl) (ev_199 (d := d) (by omega) hT1 ) (fun r3 w2 hT2 => ?_)
  refine sp_ite (fun h4 => ?_) (fun h4 => ?_)
  · refine s_if0 rfl (zb_eq0 h4) ?_
    refine s_aload rfl rfl ?_
    refine s_getF rfl hT2 ho0 rfl ?_
    refine s_iload rfl rfl ?_
    refine s_iald rfl hT2 (of_10_40 ho0) ?_
    refine s_goto rfl ?_
    exact s_retI rfl rfl hT2 (fun _ _ h => h)
  · refine s_if1 rfl (zb_eq1 h4) ?_
    refine s_const rfl ?_
    exact s_retI rfl rfl hT2 (fun _ _ h => h)
/-- RugReaderModel.waysOver(I)I -/
def sh_264 (o0 : Nat) (p1 : Int32) (w : Wd) : Option (Int32 × Wd) := itM (fun (s17 : Int32 × Int32) (w4 : Wd) => match s17 with | (v2_1, v3_2) => gd (ib 3 10265) (if v3_2 < wI w4 (o0 + 2) (ix 3) then (itM (fun (s16 : Int32 × Int32) (w9 : Wd) => match s16 with | (v2_6, v4_7) => gd (ib (177 + v3_2) 10265) (if v4_7 < wI w9 (o0 + 2) (ix (177 + v3_2)) then (gd (ib ((183 + (41 * v3_2)) + v4_7) 10265) (if wI w9 (o0 + 2) (ix ((183 + (41 * v3_2)) + v4_7)) = p1 then (lt (v2_6 ||| (1 <<< (v3_2 &&& 31)) : Int32) (fun v2_12 => lt (v4_7 + 1 : Int32) (fun v4_13 => some (.inl (v2_12, v4_13), w9)))) else (lt (v4_7 + 1 : Int32) (fun v4_14 => some (.inl (v2_6, v4_14), w9))))) else (lt (v3_2 + 1 : Int32) (fun v3_15 => some (.inr (.inl (v2_6, v3_15)), w9))))) FU (v2_1, 0) w4) else (some (.inr (v2_1), w4)))) FU (0, 0) w
set_option maxRecDepth 20000 in
set_option maxHeartbeats 4000000 in
theorem ev_264 {d : Nat} (hd : 1 ≤ d) {o0 : Nat} {p1 : Int32} {w : Wd} (hT : TY w) (ho0 : ist o0 10) : sp (sh_264 o0 p1 w) (fun r w' => TY w' ∧ Ev d 264 [.ref o0, .int p1] w (cvI r) w') := by
  obtain ⟨d, rfl⟩ : ∃ d', d = d' + 1 := ⟨d - 1, by omega⟩
  refine ev_of (M := M264) zin_264 rfl (by decide) rfl (Nat.le_of_ble_eq_true rfl) (Or.inr ⟨o0, _, rfl, ho0⟩) hT ?_
  show sp _ (PP (Ev d) M264 (KR cvI) (0, [(0, .ref o0), (1, .int p1)], [], w))
  unfold sh_264
  refine s_const rfl ?_
  refine s_istoreF [(0, .ref o0), (1, .int p1), (2, .int 0)] rfl (subl_c rfl (subl_c rfl (subl_c rfl (subl_n)))) ?_
  refine s_const rfl ?_
  refine s_istoreF [(0, .ref o0), (1, .int p1), (2, .int 0), (3, .int 0)] rfl (subl_c rfl (subl_c rfl (subl_c rfl (subl_c rfl (subl_n))))) ?_
  let lvL3 : Int32 × Int32 → List (Nat × Value) := fun s17 => [(0, .ref o0), (1, .int p1), (2, .int (s17.1)), (3, .int (s17.2))]
  refine s_loop lvL3 (subl_c rfl (subl_c rfl (subl_c rfl (subl_c rfl (subl_n))))) hT (fun s17 w4 hT4 => ?_)
  obtain ⟨v2_1, v3_2⟩ := s17
  show sp _ (PP _ _ _ (4, [(0, .ref o0), (1, .int p1), (2, .int v2_1), (3, .int v3_2)], [], w4))
  refine s_iload rfl rfl ?_
  refine s_aload rfl rfl ?_
  refine s_getF rfl hT4 ho0 rfl ?_
  refine s_const rfl ?_
  refine s_iald rfl hT4 (of_10_6 ho0) ?_
  refine sp_ite (fun h5 => ?_) (fun h5 => ?_)
  · refine s_ic0 rfl (zc_ge0 h5) ?_
    refine s_const rfl ?_
    refine s_istoreF [(0, .ref o0), (1, .int p1), (2, .int v2_1), (3, .int v3_2), (4, .int 0)] rfl (subl_c rfl (subl_c rfl (subl_c rfl (subl_c rfl (subl_c rfl (subl_n)))))) ?_
    let lvL8 : Int32 × Int32 → List (Nat × Value) := fun s16 => [(0, .ref o0), (1, .int p1), (2, .int (s16.1)), (3, .int v3_2), (4, .int (s16.2))]
    refine s_loop lvL8 (subl_c rfl (subl_c rfl (subl_c rfl (subl_c rfl (subl_c rfl (subl_n)))))) hT4 (fun s16 w9 hT9 => ?_)
    obtain ⟨v2_6, v4_7⟩ := s16
    show sp _ (PP _ _ _ (17, [(0, .ref o0), (1, .int p1), (2, .int v2_6), (3, .int v3_2), (4, .int v4_7)], [], w9))
    refine s_iload rfl rfl ?_
    refine s_aload rfl rfl ?_
    refine s_getF rfl hT9 ho0 rfl ?_
    refine s_const rfl ?_
    refine s_iload rfl rfl ?_
    refine s_bin rfl rfl ?_
    refine s_iald rfl hT9 (of_10_6 ho0) ?_
    refine sp_ite (fun h10 => ?_) (fun h10 => ?_)
    · refine s_ic0 rfl (zc_ge0 h10) ?_
      refine s_aload rfl rfl ?_
      refine s_getF rfl hT9 ho0 rfl ?_
      refine s_const rfl ?_
      refine s_const rfl ?_
      refine s_iload rfl rfl ?_
      refine s_bin rfl rfl ?_
      refine s_bin rfl rfl ?_
      refine s_iload rfl rfl ?_
      refine s_bin rfl rfl ?_
      refine s_iald rfl hT9 (of_10_6 ho0) ?_
      refine s_iload rfl rfl ?_
      refine sp_ite (fun h11 => ?_) (fun h11 => ?_)
      · refine s_ic0 rfl (zc_ne0 h11) ?_
        refine s_iload rfl rfl ?_
        refine s_const rfl ?_
        refine s_iload rfl rfl ?_
        refine s_bin rfl rfl ?_
        refine s_bin rfl rfl ?_
        refine s_nmI (fun v2_12 => ?_)
        refine s_istoreF [(0, .ref o0), (1, .int p1), (2, .int v2_12), (3, .int v3_2), (4, .int v4_7)] rfl (subl_c rfl (subl_c rfl (subl_c rfl (subl_c rfl (subl_c rfl (subl_n)))))) ?_
        refine s_iincF (fun v4_13 => [(0, .ref o0), (1, .int p1), (2, .int v2_12), (3, .int v3_2), (4, .int v4_13)]) rfl rfl (fun _ => subl_c rfl (subl_c rfl (subl_c rfl (subl_c rfl (subl_c rfl (subl_n)))))) (fun v4_13 => ?_)
        refine s_goto rfl ?_
        exact s_back (lvL := lvL8) (s' := (v2_12, v4_13)) (subl_c rfl (subl_c rfl (subl_c rfl (subl_c rfl (subl_c rfl (subl_n)))))) hT9 (fun _ _ h => h)
      · refine s_ic1 rfl (zc_ne1 h11) ?_
        refine s_iincF (fun v4_14 => [(0, .ref o0), (1, .int p1), (2, .int v2_6), (3, .int v3_2), (4, .int v4_14)]) rfl rfl (fun _ => subl_c rfl (subl_c rfl (subl_c rfl (subl_c rfl (subl_c rfl (subl_n)))))) (fun v4_14 => ?_)
        refine s_goto rfl ?_
        exact s_back (lvL := lvL8) (s' := (v2_6, v4_14)) (subl_c rfl (subl_c rfl (subl_c rfl (subl_c rfl (subl_c rfl (subl_n)))))) hT9 (fun _ _ h => h)
    · refine s_ic1 rfl (zc_ge1 h10) ?_
      refine s_iincF (fun v3_15 => [(0, .ref o0), (1, .int p1), (2, .int v2_6), (3, .int v3_15)]) rfl rfl (fun _ => subl_c rfl (subl_c rfl (subl_c rfl (subl_c rfl (subl_n))))) (fun v3_15 => ?_)
      refine s_goto rfl ?_
      exact s_back (lvL := lvL3) (s' := (v2_6, v3_15)) (subl_c rfl (subl_c rfl (subl_c rfl (subl_c rfl (subl_n))))) hT9 (fun _ _ h => h)
  · refine s_ic1 rfl (zc_ge1 h5) ?_
    refine s_iload rfl rfl ?_
    exact s_retI rfl rfl hT4 (fun _ _ h => h)
/-- RugReaderModel.bits(I)I -/
def sh_265 (p0 : Int32) (w : Wd) : Option (Int32 × Wd) := itM (fun (s8 : Int32 × Int32) (w4 : Wd) => match s8 with | (v1_1, v2_2) => if v2_2 = 0 then (some (.inr (v1_1), w4)) else (lt (v1_1 + 1 : Int32) (fun v1_6 => lt (v2_2 &&& (v2_2 - 1) : Int32) (fun v2_7 => some (.inl (v1_6, v2_7), w4))))) FU (0, p0) w
set_option maxRecDepth 20000 in
set_option maxHeartbeats 4000000 in
theorem ev_265 {d : Nat} (hd : 1 ≤ d) {p0 : Int32} {w : Wd} (hT : TY w)  : sp (sh_265 p0 w) (fun r w' => TY w' ∧ Ev d 265 [.int p0] w (cvI r) w') := by
  obtain ⟨d, rfl⟩ : ∃ d', d = d' + 1 := ⟨d - 1, by omega⟩
  refine ev_of (M := M265) zin_265 rfl (by decide) rfl (Nat.le_of_ble_eq_true rfl) (Or.inl rfl) hT ?_
  show sp _ (PP (Ev d) M265 (KR cvI) (0, [(0, .int p0)], [], w))
  unfold sh_265
  refine s_const rfl ?_
  refine s_istoreF [(0, .int p0), (1, .int 0)] rfl (subl_c rfl (subl_c rfl (subl_n))) ?_
  refine s_iload rfl rfl ?_
  refine s_istoreF [(1, .int 0), (2, .int p0)] rfl (subl_c rfl (subl_c rfl (subl_n))) ?_
  let lvL3 : Int32 × Int32 → List (Nat × Value) := fun s8 => [(1, .int (s8.1)), (2, .int (s8.2))]
  refine s_loop lvL3 (subl_c rfl (subl_c rfl (subl_n))) hT (fun s8 w4 hT4 => ?_)
  obtain ⟨v1_1, v2_2⟩ := s8
  show sp _ (PP _ _ _ (4, [(1, .int v1_1), (2, .int v2_2)], [], w4))
  refine s_iload rfl rfl ?_
  refine sp_ite (fun h5 => ?_) (fun h5 => ?_)
  · refine s_if1 rfl (zc_eq1 h5) ?_
    refine s_iload rfl rfl ?_
    exact s_retI rfl rfl hT4 (fun _ _ h => h)
  · refine s_if0 rfl (zc_eq0 h5) ?_
    refine s_iincF (fun v1_6 => [(1, .int v1_6), (2, .int v2_2)]) rfl rfl (fun _ => subl_c rfl (subl_c rfl (subl_n))) (fun v1_6 => ?_)
    refine s_iload rfl rfl ?_
    refine s_iload rfl rfl ?_
    refine s_const rfl ?_
    refine s_bin rfl rfl ?_
    refine s_bin rfl rfl ?_
    refine s_nmI (fun v2_7 => ?_)
    refine s_istoreF [(1, .int v1_6), (2, .int v2_7)] rfl (subl_c rfl (subl_c rfl (subl_n))) ?_
    refine s_goto rfl ?_
    exact s_back (lvL := lvL3) (s' := (v1_6, v2_7)) (subl_c rfl (subl_c rfl (subl_n))) hT4 (fun _ _ h => h)
/-- RugReaderModel.spot()I -/
def sh_263 (o0 : Nat) (w : Wd) : Option (Int32 × Wd) := stI w o0 0 0 (fun w1 => itM (fun (s15 : Int32 × Int32 × Int32) (w6 : Wd) => match s15 with | (v1_2, v2_3, v3_4) => if v3_4 < 144 then (cl (sh_264 o0 v3_4 w6) (fun r9 w8 => cl (sh_265 r9 w8) (fun r11 w10 => if r11 ≤ v2_3 then (lt (v3_4 + 1 : Int32) (fun v3_13 => some (.inl (v1_2, v2_3, v3_13), w10))) else (lt (v3_4 + 1 : Int32) (fun v3_14 => some (.inl (v3_4, r11, v3_14), w10)))))) else (some (.inr (v1_2), w6))) FU ((-1), 0, 0) w1)
set_option maxRecDepth 20000 in
set_option maxHeartbeats 4000000 in
theorem ev_263 {d : Nat} (hd : 2 ≤ d) {o0 : Nat} {w : Wd} (hT : TY w) (ho0 : ist o0 10) : sp (sh_263 o0 w) (fun r w' => TY w' ∧ Ev d 263 [.ref o0] w (cvI r) w') := by
  obtain ⟨d, rfl⟩ : ∃ d', d = d' + 1 := ⟨d - 1, by omega⟩
  refine ev_of (M := M263) zin_263 rfl (by decide) rfl (Nat.le_of_ble_eq_true rfl) (Or.inr ⟨o0, _, rfl, ho0⟩) hT ?_
  show sp _ (PP (Ev d) M263 (KR cvI) (0, [(0, .ref o0)], [], w))
  unfold sh_263
  refine s_aload rfl rfl ?_
  refine s_const rfl ?_
  refine s_putI rfl hT ho0 rfl (fun w1 hT1 => ?_)
  refine s_const rfl ?_
  refine s_istoreF [(0, .ref o0), (1, .int (-1))] rfl (subl_c rfl (subl_c rfl (subl_n))) ?_
  refine s_const rfl ?_
  refine s_istoreF [(0, .ref o0), (1, .int (-1)), (2, .int 0)] rfl (subl_c rfl (subl_c rfl (subl_c rfl (subl_n)))) ?_
  refine s_const rfl ?_
  refine s_istoreF [(0, .ref o0), (1, .int (-1)), (2, .int 0), (3, .int 0)] rfl (subl_c rfl (subl_c rfl (subl_c rfl (subl_c rfl (subl_n))))) ?_
  let lvL5 : Int32 × Int32 × Int32 → List (Nat × Value) := fun s15 => [(0, .ref o0), (1, .int (s15.1)), (2, .int (s15.2.1)), (3, .int (s15.2.2))]
  refine s_loop lvL5 (subl_c rfl (subl_c rfl (subl_c rfl (subl_c rfl (subl_n))))) hT1 (fun s15 w6 hT6 => ?_)
  obtain ⟨v1_2, v2_3, v3_4⟩ := s15
  show sp _ (PP _ _ _ (11, [(0, .ref o0), (1, .int v1_2), (2, .int v2_3), (3, .int v3_4)], [], w6))
  refine s_iload rfl rfl ?_
  refine s_const rfl ?_
  refine sp_ite (fun h7 => ?_) (fun h7 => ?_)
  · refine s_ic0 rfl (zc_ge0 h7) ?_
    refine s_aload rfl rfl ?_
    refine s_iload rfl rfl ?_
    refine s_callI [.ref o0, .int v3_4] [] rfl rfl (Nat.le_of_ble_eq_true rfl) (ev_264 (d := d) (by omega) hT6 ho0) (fun r9 w8 hT8 => ?_)
    refine s_callI [.int r9] [] rfl rfl (Nat.le_of_ble_eq_true rfl) (ev_265 (d := d) (by omega) hT8 ) (fun r11 w10 hT10 => ?_)
    refine s_istoreF [(0, .ref o0), (1, .int v1_2), (2, .int v2_3), (3, .int v3_4), (4, .int r11)] rfl (subl_c rfl (subl_c rfl (subl_c rfl (subl_c rfl (subl_c rfl (subl_n)))))) ?_
    refine s_iload rfl rfl ?_
    refine s_iload rfl rfl ?_
    refine sp_ite (fun h12 => ?_) (fun h12 => ?_)
    · refine s_ic0 rfl (zc_gt0 h12) ?_
      refine s_goto rfl ?_
      refine s_iincF (fun v3_13 => [(0, .ref o0), (1, .int v1_2), (2, .int v2_3), (3, .int v3_13)]) rfl rfl (fun _ => subl_c rfl (subl_c rfl (subl_c rfl (subl_c rfl (subl_n))))) (fun v3_13 => ?_)
      refine s_goto rfl ?_
      exact s_back (lvL := lvL5) (s' := (v1_2, v2_3, v3_13)) (subl_c rfl (subl_c rfl (subl_c rfl (subl_c rfl (subl_n))))) hT10 (fun _ _ h => h)
    · refine s_ic1 rfl (zc_gt1 h12) ?_
      refine s_iload rfl rfl ?_
      refine s_istoreF [(0, .ref o0), (2, .int r11), (3, .int v3_4)] rfl (subl_c rfl (subl_c rfl (subl_c rfl (subl_n)))) ?_
      refine s_iload rfl rfl ?_
      refine s_istoreF [(0, .ref o0), (1, .int v3_4), (2, .int r11), (3, .int v3_4)] rfl (subl_c rfl (subl_c rfl (subl_c rfl (subl_c rfl (subl_n))))) ?_
      refine s_iincF (fun v3_14 => [(0, .ref o0), (1, .int v3_4), (2, .int r11), (3, .int v3_14)]) rfl rfl (fun _ => subl_c rfl (subl_c rfl (subl_c rfl (subl_c rfl (subl_n))))) (fun v3_14 => ?_)
      refine s_goto rfl ?_
      exact s_back (lvL := lvL5) (s' := (v3_4, r11, v3_14)) (subl_c rfl (subl_c rfl (subl_c rfl (subl_c rfl (subl_n))))) hT10 (fun _ _ h => h)
  · refine s_ic1 rfl (zc_ge1 h7) ?_
    refine s_iload rfl rfl ?_
    exact s_retI rfl rfl hT6 (fun _ _ h => h)
/-- RugReaderModel.ways(I)I -/
def sh_266 (o0 : Nat) (p1 : Int32) (w : Wd) : Option (Int32 × Wd) := stI w o0 0 0 (fun w1 => cl (sh_216 o0 p1 w1) (fun r3 w2 => if r3 = true then (cl (sh_264 o0 p1 w2) (fun r6 w5 => some (r6, w5))) else (some ((-1), w2))))
set_option maxRecDepth 20000 in
set_option maxHeartbeats 4000000 in
theorem ev_266 {d : Nat} (hd : 2 ≤ d) {o0 : Nat} {p1 : Int32} {w : Wd} (hT : TY w) (ho0 : ist o0 10) : sp (sh_266 o0 p1 w) (fun r w' => TY w' ∧ Ev d 266 [.ref o0, .int p1] w (cvI r) w') := by
  obtain ⟨d, rfl⟩ : ∃ d', d = d' + 1 := ⟨d - 1, by omega⟩
  refine ev_of (M := M266) zin_266 rfl (by decide) rfl (Nat.le_of_ble_eq_true rfl) (Or.inr ⟨o0, _, rfl, ho0⟩) hT ?_
  show sp _ (PP (Ev d) M266 (KR cvI) (0, [(0, .ref o0), (1, .int p1)], [], w))
  unfold sh_266
  refine s_aload rfl rfl ?_
  refine s_const rfl ?_
  refine s_putI rfl hT ho0 rfl (fun w1 hT1 => ?_)
  refine s_aload rfl rfl ?_
  refine s_iload rfl rfl ?_
  refine s_callZ [.ref o0, .int p1] [] rfl rfl (Nat.le_of_ble_eq_true rfl) (ev_216 (d := d) (by omega) hT1 ho0) (fun r3 w2 hT2 => ?_)
  refine sp_ite (fun h4 => ?_) (fun h4 => ?_)
  · refine s_if0 rfl (zb_eq0 h4) ?_
    refine s_aload rfl rfl ?_
    refine s_iload rfl rfl ?_
    refine s_callI [.ref o0, .int p1] [] rfl rfl (Nat.le_of_ble_eq_true rfl) (ev_264 (d := d) (by omega) hT2 ho0) (fun r6 w5 hT5 => ?_)
    refine s_goto rfl ?_
    exact s_retI rfl rfl hT5 (fun _ _ h => h)
  · refine s_if1 rfl (zb_eq1 h4) ?_
    refine s_const rfl ?_
    exact s_retI rfl rfl hT2 (fun _ _ h => h)
/-- RugReaderModel.bitOf(II)Z -/
def sh_268 (p0 : Int32) (p1 : Int32) (w : Wd) : Option (Bool × Wd) := lt (if (p0 >>> (p1 &&& 31)) &&& 1 = 1 then true else false : Bool) (fun z1 => some (z1, w))
set_option maxRecDepth 20000 in
set_option maxHeartbeats 4000000 in
theorem ev_268 {d : Nat} (hd : 1 ≤ d) {p0 : Int32} {p1 : Int32} {w : Wd} (hT : TY w)  : sp (sh_268 p0 p1 w) (fun r w' => TY w' ∧ Ev d 268 [.int p0, .int p1] w (cvZ r) w') := by
  obtain ⟨d, rfl⟩ : ∃ d', d = d' + 1 := ⟨d - 1, by omega⟩
  refine ev_of (M := M268) zin_268 rfl (by decide) rfl (Nat.le_of_ble_eq_true rfl) (Or.inl rfl) hT ?_
  show sp _ (PP (Ev d) M268 (KR cvZ) (0, [(0, .int p0), (1, .int p1)], [], w))
  unfold sh_268
  refine s_iload rfl rfl ?_
  refine s_iload rfl rfl ?_
  refine s_bin rfl rfl ?_
  refine s_const rfl ?_
  refine s_bin rfl rfl ?_
  refine s_const rfl ?_
  refine sp_lt (fun z1 hz1 => ?_)
  refine s_dia (14, [(0, .int p0), (1, .int p1)], [.int (bi z1)], w) ?_ (fun hk2 => ?_)
  · exact s_retZ (z := z1) rfl rfl hT (fun _ _ h => h)
  · by_cases h3 : (p0 >>> (p1 &&& 31)) &&& 1 = 1
    · refine s_ic0 rfl (zc_ne0 h3) ?_
      refine s_const rfl ?_
      refine s_goto rfl ?_
      refine s_cong ?_ hk2
      (rw [hz1, if_pos h3]; rfl)
    · refine s_ic1 rfl (zc_ne1 h3) ?_
      refine s_const rfl ?_
      refine s_cong ?_ hk2
      (rw [hz1, if_neg h3]; rfl)
/-- RugReaderModel.both(II)I -/
def sh_267 (o0 : Nat) (p1 : Int32) (p2 : Int32) (w : Wd) : Option (Int32 × Wd) := stI w o0 0 0 (fun w1 => cl (sh_221 o0 p1 w1) (fun r3 w2 => if r3 = true then (cl (sh_221 o0 p2 w2) (fun r6 w5 => if r6 = true then (itM (fun (s29 : Int32 × Int32) (w11 : Wd) => match s29 with | (v3_8, v4_9) => if v4_9 < 144 then (cl (sh_264 o0 v4_9 w11) (fun r14 w13 => cl (sh_268 r14 p1 w13) (fun r16 w15 => if r16 = true then (cl (sh_264 o0 v4_9 w15) (fun r19 w18 => cl (sh_268 r19 p2 w18) (fun r21 w20 => if r21 = true then (lt (v3_8 + 1 : Int32) (fun v3_23 => lt (v4_9 + 1 : Int32) (fun v4_24 => some (.inl (v3_23, v4_24), w20)))) else (lt (v3_8 + 0 : Int32) (fun v3_25 => lt (v4_9 + 1 : Int32) (fun v4_26 => some (.inl (v3_25, v4_26), w20))))))) else (lt (v3_8 + 0 : Int32) (fun v3_27 => lt (v4_9 + 1 : Int32) (fun v4_28 => some (.inl (v3_27, v4_28), w15))))))) else (some (.inr (v3_8), w11))) FU (0, 0) w5) else (some ((-1), w5)))) else (some ((-1), w2))))
set_option maxRecDepth 20000 in
set_option maxHeartbeats 4000000 in
theorem ev_267 {d : Nat} (hd : 3 ≤ d) {o0 : Nat} {p1 : Int32} {p2 : Int32} {w : Wd} (hT : TY w) (ho0 : ist o0 10) : sp (sh_267 o0 p1 p2 w) (fun r w' => TY w' ∧ Ev d 267 [.ref o0, .int p1, .int p2] w (cvI r) w') := by
  obtain ⟨d, rfl⟩ : ∃ d', d = d' + 1 := ⟨d - 1, by omega⟩
  refine ev_of (M := M267) zin_267 rfl (by decide) rfl (Nat.le_of_ble_eq_true rfl) (Or.inr ⟨o0, _, rfl, ho0⟩) hT ?_
  show sp _ (PP (Ev d) M267 (KR cvI) (0, [(0, .ref o0), (1, .int p1), (2, .int p2)], [], w))
  unfold sh_267
  refine s_aload rfl rfl ?_
  refine s_const rfl ?_
  refine s_putI rfl hT ho0 rfl (fun w1 hT1 => ?_)
  refine s_aload rfl rfl ?_
  refine s_iload rfl rfl ?_
  refine s_callZ [.ref o0, .int p1] [] rfl rfl (Nat.le_of_ble_eq_true rfl) (ev_221 (d := d) (by omega) hT1 ho0) (fun r3 w2 hT2 => ?_)
  refine sp_ite (fun h4 => ?_) (fun h4 => ?_)
  · refine s_if0 rfl (zb_eq0 h4) ?_
    refine s_aload rfl rfl ?_
    refine s_iload rfl rfl ?_
    refine s_callZ [.ref o0, .int p2] [] rfl rfl (Nat.le_of_ble_eq_true rfl) (ev_221 (d := d) (by omega) hT2 ho0) (fun r6 w5 hT5 => ?_)
    refine sp_ite (fun h7 => ?_) (fun h7 => ?_)
    · refine s_if1 rfl (zb_ne1 h7) ?_
      refine s_const rfl ?_
      refine s_istoreF [(0, .ref o0), (1, .int p1), (2, .int p2), (3, .int 0)] rfl (subl_c rfl (subl_c rfl (subl_c rfl (subl_c rfl (subl_n))))) ?_
      refine s_const rfl ?_
      refine s_istoreF [(0, .ref o0), (1, .int p1), (2, .int p2), (3, .int 0), (4, .int 0)] rfl (subl_c rfl (subl_c rfl (subl_c rfl (subl_c rfl (subl_c rfl (subl_n)))))) ?_
      let lvL10 : Int32 × Int32 → List (Nat × Value) := fun s29 => [(0, .ref o0), (1, .int p1), (2, .int p2), (3, .int (s29.1)), (4, .int (s29.2))]
      refine s_loop lvL10 (subl_c rfl (subl_c rfl (subl_c rfl (subl_c rfl (subl_c rfl (subl_n)))))) hT5 (fun s29 w11 hT11 => ?_)
      obtain ⟨v3_8, v4_9⟩ := s29
      show sp _ (PP _ _ _ (28, [(0, .ref o0), (1, .int p1), (2, .int p2), (3, .int v3_8), (4, .int v4_9)], [], w11))
      refine s_iload rfl rfl ?_
      refine s_const rfl ?_
      refine sp_ite (fun h12 => ?_) (fun h12 => ?_)
      · refine s_ic0 rfl (zc_ge0 h12) ?_
        refine s_iload rfl rfl ?_
        refine s_aload rfl rfl ?_
        refine s_iload rfl rfl ?_
        refine s_callI [.ref o0, .int v4_9] [.int v3_8] rfl rfl (Nat.le_of_ble_eq_true rfl) (ev_264 (d := d) (by omega) hT11 ho0) (fun r14 w13 hT13 => ?_)
        refine s_iload rfl rfl ?_
        refine s_callZ [.int r14, .int p1] [.int v3_8] rfl rfl (Nat.le_of_ble_eq_true rfl) (ev_268 (d := d) (by omega) hT13 ) (fun r16 w15 hT15 => ?_)
        refine sp_ite (fun h17 => ?_) (fun h17 => ?_)
        · refine s_if0 rfl (zb_eq0 h17) ?_
          refine s_aload rfl rfl ?_
          refine s_iload rfl rfl ?_
          refine s_callI [.ref o0, .int v4_9] [.int v3_8] rfl rfl (Nat.le_of_ble_eq_true rfl) (ev_264 (d := d) (by omega) hT15 ho0) (fun r19 w18 hT18 => ?_)
          refine s_iload rfl rfl ?_
          refine s_callZ [.int r19, .int p2] [.int v3_8] rfl rfl (Nat.le_of_ble_eq_true rfl) (ev_268 (d := d) (by omega) hT18 ) (fun r21 w20 hT20 => ?_)
          refine sp_ite (fun h22 => ?_) (fun h22 => ?_)
          · refine s_if0 rfl (zb_eq0 h22) ?_
            refine s_const rfl ?_
            refine s_goto rfl ?_
            refine s_bin rfl rfl ?_
            refine s_nmI (fun v3_23 => ?_)
            refine s_istoreF [(0, .ref o0), (1, .int p1), (2, .int p2), (3, .int v3_23), (4, .int v4_9)] rfl (subl_c rfl (subl_c rfl (subl_c rfl (subl_c rfl (subl_c rfl (subl_n)))))) ?_
            refine s_iincF (fun v4_24 => [(0, .ref o0), (1, .int p1), (2, .int p2), (3, .int v3_23), (4, .int v4_24)]) rfl rfl (fun _ => subl_c rfl (subl_c rfl (subl_c rfl (subl_c rfl (subl_c rfl (subl_n)))))) (fun v4_24 => ?_)
            refine s_goto rfl ?_
            exact s_back (lvL := lvL10) (s' := (v3_23, v4_24)) (subl_c rfl (subl_c rfl (subl_c rfl (subl_c rfl (subl_c rfl (subl_n)))))) hT20 (fun _ _ h => h)
          · refine s_if1 rfl (zb_eq1 h22) ?_
            refine s_const rfl ?_
            refine s_bin rfl rfl ?_
            refine s_nmI (fun v3_25 => ?_)
            refine s_istoreF [(0, .ref o0), (1, .int p1), (2, .int p2), (3, .int v3_25), (4, .int v4_9)] rfl (subl_c rfl (subl_c rfl (subl_c rfl (subl_c rfl (subl_c rfl (subl_n)))))) ?_
            refine s_iincF (fun v4_26 => [(0, .ref o0), (1, .int p1), (2, .int p2), (3, .int v3_25), (4, .int v4_26)]) rfl rfl (fun _ => subl_c rfl (subl_c rfl (subl_c rfl (subl_c rfl (subl_c rfl (subl_n)))))) (fun v4_26 => ?_)
            refine s_goto rfl ?_
            exact s_back (lvL := lvL10) (s' := (v3_25, v4_26)) (subl_c rfl (subl_c rfl (subl_c rfl (subl_c rfl (subl_c rfl (subl_n)))))) hT20 (fun _ _ h => h)
        · refine s_if1 rfl (zb_eq1 h17) ?_
          refine s_const rfl ?_
          refine s_bin rfl rfl ?_
          refine s_nmI (fun v3_27 => ?_)
          refine s_istoreF [(0, .ref o0), (1, .int p1), (2, .int p2), (3, .int v3_27), (4, .int v4_9)] rfl (subl_c rfl (subl_c rfl (subl_c rfl (subl_c rfl (subl_c rfl (subl_n)))))) ?_
          refine s_iincF (fun v4_28 => [(0, .ref o0), (1, .int p1), (2, .int p2), (3, .int v3_27), (4, .int v4_28)]) rfl rfl (fun _ => subl_c rfl (subl_c rfl (subl_c rfl (subl_c rfl (subl_c rfl (subl_n)))))) (fun v4_28 => ?_)
          refine s_goto rfl ?_
          exact s_back (lvL := lvL10) (s' := (v3_27, v4_28)) (subl_c rfl (subl_c rfl (subl_c rfl (subl_c rfl (subl_c rfl (subl_n)))))) hT15 (fun _ _ h => h)
      · refine s_ic1 rfl (zc_ge1 h12) ?_
        refine s_iload rfl rfl ?_
        exact s_retI rfl rfl hT11 (fun _ _ h => h)
    · refine s_if0 rfl (zb_ne0 h7) ?_
      refine s_const rfl ?_
      exact s_retI rfl rfl hT5 (fun _ _ h => h)
  · refine s_if1 rfl (zb_eq1 h4) ?_
    refine s_const rfl ?_
    exact s_retI rfl rfl hT2 (fun _ _ h => h)
/-- RugReaderModel.draw(I)I -/
def sh_270 (o0 : Nat) (p1 : Int32) (w : Wd) : Option (Int32 × Wd) := stI w o0 44 (((wI w o0 44) * 1103515245) + 12345) (fun w1 => gd (decide (¬ p1 = 0)) (some (zrem (zush (wI w1 o0 44) 8) p1, w1)))
set_option maxRecDepth 20000 in
set_option maxHeartbeats 4000000 in
theorem ev_270 {d : Nat} (hd : 1 ≤ d) {o0 : Nat} {p1 : Int32} {w : Wd} (hT : TY w) (ho0 : ist o0 10) : sp (sh_270 o0 p1 w) (fun r w' => TY w' ∧ Ev d 270 [.ref o0, .int p1] w (cvI r) w') := by
  obtain ⟨d, rfl⟩ : ∃ d', d = d' + 1 := ⟨d - 1, by omega⟩
  refine ev_of (M := M270) zin_270 rfl (by decide) rfl (Nat.le_of_ble_eq_true rfl) (Or.inr ⟨o0, _, rfl, ho0⟩) hT ?_
  show sp _ (PP (Ev d) M270 (KR cvI) (0, [(0, .ref o0), (1, .int p1)], [], w))
  unfold sh_270
  refine s_aload rfl rfl ?_
  refine s_aload rfl rfl ?_
  refine s_getI rfl hT ho0 ?_
  refine s_const rfl ?_
  refine s_bin rfl rfl ?_
  refine s_const rfl ?_
  refine s_bin rfl rfl ?_
  refine s_putI rfl hT ho0 rfl (fun w1 hT1 => ?_)
  refine s_aload rfl rfl ?_
  refine s_getI rfl hT1 ho0 ?_
  refine s_const rfl ?_
  refine s_bin rfl rfl ?_
  refine s_iload rfl rfl ?_
  refine sp_gd (fun h2 => ?_)
  refine s_rem rfl (of_decide_eq_true h2) ?_
  exact s_retI rfl rfl hT1 (fun _ _ h => h)
/-- RugReaderModel.years(III)I -/
def sh_269 (o0 : Nat) (p1 : Int32) (p2 : Int32) (p3 : Int32) (w : Wd) : Option (Int32 × Wd) := stI w o0 0 0 (fun w1 => cl (sh_199 p1 1 60 w1) (fun r3 w2 => if r3 = true then (cl (sh_199 p2 1 9 w2) (fun r6 w5 => if r6 = true then (gd (ib 2 10265) (if wI w5 (o0 + 2) (ix 2) = 0 then (some ((-1), w5)) else (gd (ib 3 10265) (if wI w5 (o0 + 2) (ix 3) = 0 then (some ((-1), w5)) else (gd (ib 429 10265) (if 999 < (wI w5 (o0 + 2) (ix 429)) + p1 then (some ((-1), w5)) else (cl (sh_224 o0 w5) (fun _ w11 => stI w11 o0 44 p3 (fun w13 => itM (fun (v4_14 : Int32) (w16 : Wd) => if v4_14 < p1 then (itM (fun (v5_18 : Int32) (w20 : Wd) => if v5_18 < p2 then (gd (ib 2 10265) (cl (sh_270 o0 (wI w20 (o0 + 2) (ix 2)) w20) (fun r23 w22 => gd (ib 3 10265) (cl (sh_270 o0 (wI w22 (o0 + 2) (ix 3)) w22) (fun r25 w24 => gd (ib (13 + r23) 10265) (cl (sh_225 o0 r23 r25 (wI w24 (o0 + 2) (ix (13 + r23))) w24) (fun _ w26 => lt (v5_18 + 1 : Int32) (fun v5_28 => some (.inl v5_28, w26))))))))) else (cl (sh_270 o0 6 w20) (fun r30 w29 => if r30 = 0 then (gd (ib 0 10265) (cl (sh_270 o0 (wI w29 (o0 + 2) (ix 0)) w29) (fun r33 w32 => gd (ib 1 10265) (cl (sh_270 o0 (wI w32 (o0 + 2) (ix 1)) w32) (fun r35 w34 => cl (sh_232 o0 ((12 * r35) + r33) w34) (fun r37 w36 => cl (sh_228 o0 w36) (fun _ w38 => lt (v4_14 + 1 : Int32) (fun v4_40 => some (.inr (.inl v4_40), w38))))))))) else (cl (sh_228 o0 w29) (fun _ w41 => lt (v4_14 + 1 : Int32) (fun v4_43 => some (.inr (.inl v4_43), w41))))))) FU 0 w16) else (gd (ib 429 10265) (some (.inr (wI w16 (o0 + 2) (ix 429)), w16)))) FU 0 w13))))))))) else (some ((-1), w5)))) else (some ((-1), w2))))
set_option maxRecDepth 20000 in
set_option maxHeartbeats 4000000 in
theorem ev_269 {d : Nat} (hd : 3 ≤ d) {o0 : Nat} {p1 : Int32} {p2 : Int32} {p3 : Int32} {w : Wd} (hT : TY w) (ho0 : ist o0 10) : sp (sh_269 o0 p1 p2 p3 w) (fun r w' => TY w' ∧ Ev d 269 [.ref o0, .int p1, .int p2, .int p3] w (cvI r) w') := by
  obtain ⟨d, rfl⟩ : ∃ d', d = d' + 1 := ⟨d - 1, by omega⟩
  refine ev_of (M := M269) zin_269 rfl (by decide) rfl (Nat.le_of_ble_eq_true rfl) (Or.inr ⟨o0, _, rfl, ho0⟩) hT ?_
  show sp _ (PP (Ev d) M269 (KR cvI) (0, [(0, .ref o0), (1, .int p1), (2, .int p2), (3, .int p3)], [], w))
  unfold sh_269
  refine s_aload rfl rfl ?_
  refine s_const rfl ?_
  refine s_putI rfl hT ho0 rfl (fun w1 hT1 => ?_)
  refine s_iload rfl rfl ?_
  refine s_const rfl ?_
  refine s_const rfl ?_
  refine s_callZ [.int p1, .int 1, .int 60] [] rfl rfl (Nat.le_of_ble_eq_true rfl) (ev_199 (d := d) (by omega) hT1 ) (fun r3 w2 hT2 => ?_)
  refine sp_ite (fun h4 => ?_) (fun h4 => ?_)
  · refine s_if0 rfl (zb_eq0 h4) ?_
    refine s_iload rfl rfl ?_
    refine s_const rfl ?_
    refine s_const rfl ?_
    refine s_callZ [.int p2, .int 1, .int 9] [] rfl rfl (Nat.le_of_ble_eq_true rfl) (ev_199 (d := d) (by omega) hT2 ) (fun r6 w5 hT5 => ?_)
    refine sp_ite (fun h7 => ?_) (fun h7 => ?_)
    · refine s_if0 rfl (zb_eq0 h7) ?_
      refine s_aload rfl rfl ?_
      refine s_getF rfl hT5 ho0 rfl ?_
      refine s_const rfl ?_
      refine s_iald rfl hT5 (of_10_6 ho0) ?_
      refine sp_ite (fun h8 => ?_) (fun h8 => ?_)
      · refine s_if1 rfl (zc_eq1 h8) ?_
        refine s_const rfl ?_
        exact s_retI rfl rfl hT5 (fun _ _ h => h)
      · refine s_if0 rfl (zc_eq0 h8) ?_
        refine s_aload rfl rfl ?_
        refine s_getF rfl hT5 ho0 rfl ?_
        refine s_const rfl ?_
        refine s_iald rfl hT5 (of_10_6 ho0) ?_
        refine sp_ite (fun h9 => ?_) (fun h9 => ?_)
        · refine s_if1 rfl (zc_eq1 h9) ?_
          refine s_const rfl ?_
          exact s_retI rfl rfl hT5 (fun _ _ h => h)
        · refine s_if0 rfl (zc_eq0 h9) ?_
          refine s_aload rfl rfl ?_
          refine s_getF rfl hT5 ho0 rfl ?_
          refine s_const rfl ?_
          refine s_iald rfl hT5 (of_10_6 ho0) ?_
          refine s_iload rfl rfl ?_
          refine s_bin rfl rfl ?_
          refine s_const rfl ?_
          refine sp_ite (fun h10 => ?_) (fun h10 => ?_)
          · refine s_ic0 rfl (zc_le0 h10) ?_
            refine s_const rfl ?_
            exact s_retI rfl rfl hT5 (fun _ _ h => h)
          · refine s_ic1 rfl (zc_le1 h10) ?_
            refine s_aload rfl rfl ?_
            refine s_callV [.ref o0] [] rfl rfl (Nat.le_of_ble_eq_true rfl) (ev_224 (d := d) (by omega) hT5 ho0) (fun _ w11 hT11 => ?_)
            refine s_aload rfl rfl ?_
            refine s_iload rfl rfl ?_
            refine s_putI rfl hT11 ho0 rfl (fun w13 hT13 => ?_)
            refine s_const rfl ?_
            refine s_istoreF [(0, .ref o0), (1, .int p1), (2, .int p2), (4, .int 0)] rfl (subl_c rfl (subl_c rfl (subl_c rfl (subl_c rfl (subl_n))))) ?_
            let lvL15 : Int32 → List (Nat × Value) := fun s45 => [(0, .ref o0), (1, .int p1), (2, .int p2), (4, .int s45)]
            refine s_loop lvL15 (subl_c rfl (subl_c rfl (subl_c rfl (subl_c rfl (subl_n))))) hT13 (fun v4_14 w16 hT16 => ?_)
            show sp _ (PP _ _ _ (73, [(0, .ref o0), (1, .int p1), (2, .int p2), (4, .int v4_14)], [], w16))
            refine s_iload rfl rfl ?_
            refine s_iload rfl rfl ?_
            refine sp_ite (fun h17 => ?_) (fun h17 => ?_)
            · refine s_ic0 rfl (zc_ge0 h17) ?_
              refine s_const rfl ?_
              refine s_istoreF [(0, .ref o0), (1, .int p1), (2, .int p2), (4, .int v4_14), (5, .int 0)] rfl (subl_c rfl (subl_c rfl (subl_c rfl (subl_c rfl (subl_c rfl (subl_n)))))) ?_
              let lvL19 : Int32 → List (Nat × Value) := fun s44 => [(0, .ref o0), (1, .int p1), (2, .int p2), (4, .int v4_14), (5, .int s44)]
              refine s_loop lvL19 (subl_c rfl (subl_c rfl (subl_c rfl (subl_c rfl (subl_c rfl (subl_n)))))) hT16 (fun v5_18 w20 hT20 => ?_)
              show sp _ (PP _ _ _ (82, [(0, .ref o0), (1, .int p1), (2, .int p2), (4, .int v4_14), (5, .int v5_18)], [], w20))
              refine s_iload rfl rfl ?_
              refine s_iload rfl rfl ?_
              refine sp_ite (fun h21 => ?_) (fun h21 => ?_)
              · refine s_ic0 rfl (zc_ge0 h21) ?_
                refine s_aload rfl rfl ?_
                refine s_aload rfl rfl ?_
                refine s_getF rfl hT20 ho0 rfl ?_
                refine s_const rfl ?_
                refine s_iald rfl hT20 (of_10_6 ho0) ?_
                refine s_callI [.ref o0, .int (wI w20 (o0 + 2) (ix 2))] [] rfl rfl (Nat.le_of_ble_eq_true rfl) (ev_270 (d := d) (by omega) hT20 ho0) (fun r23 w22 hT22 => ?_)
                refine s_istoreF [(0, .ref o0), (1, .int p1), (2, .int p2), (4, .int v4_14), (5, .int v5_18), (6, .int r23)] rfl (subl_c rfl (subl_c rfl (subl_c rfl (subl_c rfl (subl_c rfl (subl_c rfl (subl_n))))))) ?_
                refine s_aload rfl rfl ?_
                refine s_aload rfl rfl ?_
                refine s_getF rfl hT22 ho0 rfl ?_
                refine s_const rfl ?_
                refine s_iald rfl hT22 (of_10_6 ho0) ?_
                refine s_callI [.ref o0, .int (wI w22 (o0 + 2) (ix 3))] [] rfl rfl (Nat.le_of_ble_eq_true rfl) (ev_270 (d := d) (by omega) hT22 ho0) (fun r25 w24 hT24 => ?_)
                refine s_istoreF [(0, .ref o0), (1, .int p1), (2, .int p2), (4, .int v4_14), (5, .int v5_18), (6, .int r23), (7, .int r25)] rfl (subl_c rfl (subl_c rfl (subl_c rfl (subl_c rfl (subl_c rfl (subl_c rfl (subl_c rfl (subl_n)))))))) ?_
                refine s_aload rfl rfl ?_
                refine s_iload rfl rfl ?_
                refine s_iload rfl rfl ?_
                refine s_aload rfl rfl ?_
                refine s_getF rfl hT24 ho0 rfl ?_
                refine s_const rfl ?_
                refine s_iload rfl rfl ?_
                refine s_bin rfl rfl ?_
                refine s_iald rfl hT24 (of_10_6 ho0) ?_
                refine s_callV [.ref o0, .int r23, .int r25, .int (wI w24 (o0 + 2) (ix (13 + r23)))] [] rfl rfl (Nat.le_of_ble_eq_true rfl) (ev_225 (d := d) (by omega) hT24 ho0) (fun _ w26 hT26 => ?_)
                refine s_iincF (fun v5_28 => [(0, .ref o0), (1, .int p1), (2, .int p2), (4, .int v4_14), (5, .int v5_28)]) rfl rfl (fun _ => subl_c rfl (subl_c rfl (subl_c rfl (subl_c rfl (subl_c rfl (subl_n)))))) (fun v5_28 => ?_)
                refine s_goto rfl ?_
                exact s_back (lvL := lvL19) (s' := v5_28) (subl_c rfl (subl_c rfl (subl_c rfl (subl_c rfl (subl_c rfl (subl_n)))))) hT26 (fun _ _ h => h)
              · refine s_ic1 rfl (zc_ge1 h21) ?_
                refine s_aload rfl rfl ?_
                refine s_const rfl ?_
                refine s_callI [.ref o0, .int 6] [] rfl rfl (Nat.le_of_ble_eq_true rfl) (ev_270 (d := d) (by omega) hT20 ho0) (fun r30 w29 hT29 => ?_)
                refine sp_ite (fun h31 => ?_) (fun h31 => ?_)
                · refine s_if0 rfl (zc_ne0 h31) ?_
                  refine s_aload rfl rfl ?_
                  refine s_aload rfl rfl ?_
                  refine s_getF rfl hT29 ho0 rfl ?_
                  refine s_const rfl ?_
                  refine s_iald rfl hT29 (of_10_6 ho0) ?_
                  refine s_callI [.ref o0, .int (wI w29 (o0 + 2) (ix 0))] [] rfl rfl (Nat.le_of_ble_eq_true rfl) (ev_270 (d := d) (by omega) hT29 ho0) (fun r33 w32 hT32 => ?_)
                  refine s_istoreF [(0, .ref o0), (1, .int p1), (2, .int p2), (4, .int v4_14), (5, .int r33)] rfl (subl_c rfl (subl_c rfl (subl_c rfl (subl_c rfl (subl_c rfl (subl_n)))))) ?_
                  refine s_aload rfl rfl ?_
                  refine s_aload rfl rfl ?_
                  refine s_getF rfl hT32 ho0 rfl ?_
                  refine s_const rfl ?_
                  refine s_iald rfl hT32 (of_10_6 ho0) ?_
                  refine s_callI [.ref o0, .int (wI w32 (o0 + 2) (ix 1))] [] rfl rfl (Nat.le_of_ble_eq_true rfl) (ev_270 (d := d) (by omega) hT32 ho0) (fun r35 w34 hT34 => ?_)
                  refine s_istoreF [(0, .ref o0), (1, .int p1), (2, .int p2), (4, .int v4_14), (5, .int r33), (6, .int r35)] rfl (subl_c rfl (subl_c rfl (subl_c rfl (subl_c rfl (subl_c rfl (subl_c rfl (subl_n))))))) ?_
                  refine s_aload rfl rfl ?_
                  refine s_const rfl ?_
                  refine s_iload rfl rfl ?_
                  refine s_bin rfl rfl ?_
                  refine s_iload rfl rfl ?_
                  refine s_bin rfl rfl ?_
                  refine s_callI [.ref o0, .int ((12 * r35) + r33)] [] rfl rfl (Nat.le_of_ble_eq_true rfl) (ev_232 (d := d) (by omega) hT34 ho0) (fun r37 w36 hT36 => ?_)
                  refine s_pop rfl rfl ?_
                  refine s_aload rfl rfl ?_
                  refine s_callV [.ref o0] [] rfl rfl (Nat.le_of_ble_eq_true rfl) (ev_228 (d := d) (by omega) hT36 ho0) (fun _ w38 hT38 => ?_)
                  refine s_iincF (fun v4_40 => [(0, .ref o0), (1, .int p1), (2, .int p2), (4, .int v4_40)]) rfl rfl (fun _ => subl_c rfl (subl_c rfl (subl_c rfl (subl_c rfl (subl_n))))) (fun v4_40 => ?_)
                  refine s_goto rfl ?_
                  exact s_back (lvL := lvL15) (s' := v4_40) (subl_c rfl (subl_c rfl (subl_c rfl (subl_c rfl (subl_n))))) hT38 (fun _ _ h => h)
                · refine s_if1 rfl (zc_ne1 h31) ?_
                  refine s_aload rfl rfl ?_
                  refine s_callV [.ref o0] [] rfl rfl (Nat.le_of_ble_eq_true rfl) (ev_228 (d := d) (by omega) hT29 ho0) (fun _ w41 hT41 => ?_)
                  refine s_iincF (fun v4_43 => [(0, .ref o0), (1, .int p1), (2, .int p2), (4, .int v4_43)]) rfl rfl (fun _ => subl_c rfl (subl_c rfl (subl_c rfl (subl_c rfl (subl_n))))) (fun v4_43 => ?_)
                  refine s_goto rfl ?_
                  exact s_back (lvL := lvL15) (s' := v4_43) (subl_c rfl (subl_c rfl (subl_c rfl (subl_c rfl (subl_n))))) hT41 (fun _ _ h => h)
            · refine s_ic1 rfl (zc_ge1 h17) ?_
              refine s_aload rfl rfl ?_
              refine s_getF rfl hT16 ho0 rfl ?_
              refine s_const rfl ?_
              refine s_iald rfl hT16 (of_10_6 ho0) ?_
              exact s_retI rfl rfl hT16 (fun _ _ h => h)
    · refine s_if1 rfl (zb_eq1 h7) ?_
      refine s_const rfl ?_
      exact s_retI rfl rfl hT5 (fun _ _ h => h)
  · refine s_if1 rfl (zb_eq1 h4) ?_
    refine s_const rfl ?_
    exact s_retI rfl rfl hT2 (fun _ _ h => h)
/-- RugReaderModel.rarest()I -/
def sh_271 (o0 : Nat) (w : Wd) : Option (Int32 × Wd) := stI w o0 0 0 (fun w1 => itM (fun (s12 : Int32 × Int32) (w5 : Wd) => match s12 with | (v1_2, v2_3) => gd (ib 2 10265) (if v2_3 < wI w5 (o0 + 2) (ix 2) then (if 0 ≤ v1_2 then (gd (ib (430 + v2_3) 10265) (gd (ib (430 + v1_2) 10265) (if wI w5 (o0 + 2) (ix (430 + v2_3)) < wI w5 (o0 + 2) (ix (430 + v1_2)) then (lt (v2_3 + 1 : Int32) (fun v2_9 => some (.inl (v2_3, v2_9), w5))) else (lt (v2_3 + 1 : Int32) (fun v2_10 => some (.inl (v1_2, v2_10), w5)))))) else (lt (v2_3 + 1 : Int32) (fun v2_11 => some (.inl (v2_3, v2_11), w5)))) else (some (.inr (v1_2), w5)))) FU ((-1), 0) w1)
set_option maxRecDepth 20000 in
set_option maxHeartbeats 4000000 in
theorem ev_271 {d : Nat} (hd : 1 ≤ d) {o0 : Nat} {w : Wd} (hT : TY w) (ho0 : ist o0 10) : sp (sh_271 o0 w) (fun r w' => TY w' ∧ Ev d 271 [.ref o0] w (cvI r) w') := by
  obtain ⟨d, rfl⟩ : ∃ d', d = d' + 1 := ⟨d - 1, by omega⟩
  refine ev_of (M := M271) zin_271 rfl (by decide) rfl (Nat.le_of_ble_eq_true rfl) (Or.inr ⟨o0, _, rfl, ho0⟩) hT ?_
  show sp _ (PP (Ev d) M271 (KR cvI) (0, [(0, .ref o0)], [], w))
  unfold sh_271
  refine s_aload rfl rfl ?_
  refine s_const rfl ?_
  refine s_putI rfl hT ho0 rfl (fun w1 hT1 => ?_)
  refine s_const rfl ?_
  refine s_istoreF [(0, .ref o0), (1, .int (-1))] rfl (subl_c rfl (subl_c rfl (subl_n))) ?_
  refine s_const rfl ?_
  refine s_istoreF [(0, .ref o0), (1, .int (-1)), (2, .int 0)] rfl (subl_c rfl (subl_c rfl (subl_c rfl (subl_n)))) ?_
  let lvL4 : Int32 × Int32 → List (Nat × Value) := fun s12 => [(0, .ref o0), (1, .int (s12.1)), (2, .int (s12.2))]
  refine s_loop lvL4 (subl_c rfl (subl_c rfl (subl_c rfl (subl_n)))) hT1 (fun s12 w5 hT5 => ?_)
  obtain ⟨v1_2, v2_3⟩ := s12
  show sp _ (PP _ _ _ (9, [(0, .ref o0), (1, .int v1_2), (2, .int v2_3)], [], w5))
  refine s_iload rfl rfl ?_
  refine s_aload rfl rfl ?_
  refine s_getF rfl hT5 ho0 rfl ?_
  refine s_const rfl ?_
  refine s_iald rfl hT5 (of_10_6 ho0) ?_
  refine sp_ite (fun h6 => ?_) (fun h6 => ?_)
  · refine s_ic0 rfl (zc_ge0 h6) ?_
    refine s_iload rfl rfl ?_
    refine sp_ite (fun h7 => ?_) (fun h7 => ?_)
    · refine s_if0 rfl (zc_lt0 h7) ?_
      refine s_aload rfl rfl ?_
      refine s_getF rfl hT5 ho0 rfl ?_
      refine s_const rfl ?_
      refine s_iload rfl rfl ?_
      refine s_bin rfl rfl ?_
      refine s_iald rfl hT5 (of_10_6 ho0) ?_
      refine s_aload rfl rfl ?_
      refine s_getF rfl hT5 ho0 rfl ?_
      refine s_const rfl ?_
      refine s_iload rfl rfl ?_
      refine s_bin rfl rfl ?_
      refine s_iald rfl hT5 (of_10_6 ho0) ?_
      refine sp_ite (fun h8 => ?_) (fun h8 => ?_)
      · refine s_ic0 rfl (zc_ge0 h8) ?_
        refine s_iload rfl rfl ?_
        refine s_istoreF [(0, .ref o0), (1, .int v2_3), (2, .int v2_3)] rfl (subl_c rfl (subl_c rfl (subl_c rfl (subl_n)))) ?_
        refine s_iincF (fun v2_9 => [(0, .ref o0), (1, .int v2_3), (2, .int v2_9)]) rfl rfl (fun _ => subl_c rfl (subl_c rfl (subl_c rfl (subl_n)))) (fun v2_9 => ?_)
        refine s_goto rfl ?_
        exact s_back (lvL := lvL4) (s' := (v2_3, v2_9)) (subl_c rfl (subl_c rfl (subl_c rfl (subl_n)))) hT5 (fun _ _ h => h)
      · refine s_ic1 rfl (zc_ge1 h8) ?_
        refine s_iincF (fun v2_10 => [(0, .ref o0), (1, .int v1_2), (2, .int v2_10)]) rfl rfl (fun _ => subl_c rfl (subl_c rfl (subl_c rfl (subl_n)))) (fun v2_10 => ?_)
        refine s_goto rfl ?_
        exact s_back (lvL := lvL4) (s' := (v1_2, v2_10)) (subl_c rfl (subl_c rfl (subl_c rfl (subl_n)))) hT5 (fun _ _ h => h)
    · refine s_if1 rfl (zc_lt1 h7) ?_
      refine s_iload rfl rfl ?_
      refine s_istoreF [(0, .ref o0), (1, .int v2_3), (2, .int v2_3)] rfl (subl_c rfl (subl_c rfl (subl_c rfl (subl_n)))) ?_
      refine s_iincF (fun v2_11 => [(0, .ref o0), (1, .int v2_3), (2, .int v2_11)]) rfl rfl (fun _ => subl_c rfl (subl_c rfl (subl_c rfl (subl_n)))) (fun v2_11 => ?_)
      refine s_goto rfl ?_
      exact s_back (lvL := lvL4) (s' := (v2_3, v2_11)) (subl_c rfl (subl_c rfl (subl_c rfl (subl_n)))) hT5 (fun _ _ h => h)
  · refine s_ic1 rfl (zc_ge1 h6) ?_
    refine s_iload rfl rfl ?_
    exact s_retI rfl rfl hT5 (fun _ _ h => h)
/-- RugReaderModel.code(III)V -/
def sh_274 (o0 : Nat) (p1 : Int32) (p2 : Int32) (p3 : Int32) (w : Wd) : Option (Unit × Wd) := gd (ib (3 * (wI w o0 46)) 135) (stI w (o0 + 4) (ix (3 * (wI w o0 46))) p1 (fun w1 => gd (ib ((3 * (wI w1 o0 46)) + 1) 135) (stI w1 (o0 + 4) (ix ((3 * (wI w1 o0 46)) + 1)) p2 (fun w2 => gd (ib ((3 * (wI w2 o0 46)) + 2) 135) (stI w2 (o0 + 4) (ix ((3 * (wI w2 o0 46)) + 2)) p3 (fun w3 => stI w3 o0 46 ((wI w3 o0 46) + 1) (fun w4 => some ((), w4))))))))
set_option maxRecDepth 20000 in
set_option maxHeartbeats 4000000 in
theorem ev_274 {d : Nat} (hd : 1 ≤ d) {o0 : Nat} {p1 : Int32} {p2 : Int32} {p3 : Int32} {w : Wd} (hT : TY w) (ho0 : ist o0 10) : sp (sh_274 o0 p1 p2 p3 w) (fun r w' => TY w' ∧ Ev d 274 [.ref o0, .int p1, .int p2, .int p3] w (cvV r) w') := by
  obtain ⟨d, rfl⟩ : ∃ d', d = d' + 1 := ⟨d - 1, by omega⟩
  refine ev_of (M := M274) zin_274 rfl (by decide) rfl (Nat.le_of_ble_eq_true rfl) (Or.inr ⟨o0, _, rfl, ho0⟩) hT ?_
  show sp _ (PP (Ev d) M274 (KR cvV) (0, [(0, .ref o0), (1, .int p1), (2, .int p2), (3, .int p3)], [], w))
  unfold sh_274
  refine s_aload rfl rfl ?_
  refine s_getF rfl hT ho0 rfl ?_
  refine s_const rfl ?_
  refine s_aload rfl rfl ?_
  refine s_getI rfl hT ho0 ?_
  refine s_bin rfl rfl ?_
  refine s_iload rfl rfl ?_
  refine s_iast rfl hT (of_10_8 ho0) (fun w1 hT1 => ?_)
  refine s_aload rfl rfl ?_
  refine s_getF rfl hT1 ho0 rfl ?_
  refine s_const rfl ?_
  refine s_aload rfl rfl ?_
  refine s_getI rfl hT1 ho0 ?_
  refine s_bin rfl rfl ?_
  refine s_const rfl ?_
  refine s_bin rfl rfl ?_
  refine s_iload rfl rfl ?_
  refine s_iast rfl hT1 (of_10_8 ho0) (fun w2 hT2 => ?_)
  refine s_aload rfl rfl ?_
  refine s_getF rfl hT2 ho0 rfl ?_
  refine s_const rfl ?_
  refine s_aload rfl rfl ?_
  refine s_getI rfl hT2 ho0 ?_
  refine s_bin rfl rfl ?_
  refine s_const rfl ?_
  refine s_bin rfl rfl ?_
  refine s_iload rfl rfl ?_
  refine s_iast rfl hT2 (of_10_8 ho0) (fun w3 hT3 => ?_)
  refine s_aload rfl rfl ?_
  refine s_dup rfl rfl ?_
  refine s_getI rfl hT3 ho0 ?_
  refine s_const rfl ?_
  refine s_bin rfl rfl ?_
  refine s_putI rfl hT3 ho0 rfl (fun w4 hT4 => ?_)
  exact s_retV rfl rfl hT4 (fun _ _ h => h)
/-- RugReaderModel.nots()V -/
def sh_273 (o0 : Nat) (w : Wd) : Option (Unit × Wd) := itM (fun (s9 : Unit) (w2 : Wd) => if 0 < wI w2 o0 48 then (gd (ib ((wI w2 o0 48) - 1) 45) (if wI w2 (o0 + 20) (ix ((wI w2 o0 48) - 1)) = 10 then (stI w2 o0 48 ((wI w2 o0 48) - 1) (fun w5 => stI w5 o0 49 ((wI w5 o0 49) - 1) (fun w6 => cl (sh_274 o0 10 0 0 w6) (fun _ w7 => some (.inl (), w7))))) else (some (.inr (()), w2)))) else (some (.inr (()), w2))) FU () w
set_option maxRecDepth 20000 in
set_option maxHeartbeats 4000000 in
theorem ev_273 {d : Nat} (hd : 2 ≤ d) {o0 : Nat} {w : Wd} (hT : TY w) (ho0 : ist o0 10) : sp (sh_273 o0 w) (fun r w' => TY w' ∧ Ev d 273 [.ref o0] w (cvV r) w') := by
  obtain ⟨d, rfl⟩ : ∃ d', d = d' + 1 := ⟨d - 1, by omega⟩
  refine ev_of (M := M273) zin_273 rfl (by decide) rfl (Nat.le_of_ble_eq_true rfl) (Or.inr ⟨o0, _, rfl, ho0⟩) hT ?_
  show sp _ (PP (Ev d) M273 (KR cvV) (0, [(0, .ref o0)], [], w))
  unfold sh_273
  let lvL1 : Unit → List (Nat × Value) := fun s9 => [(0, .ref o0)]
  refine s_loop lvL1 (subl_c rfl (subl_n)) hT (fun s9 w2 hT2 => ?_)
  show sp _ (PP _ _ _ (0, [(0, .ref o0)], [], w2))
  refine s_aload rfl rfl ?_
  refine s_getI rfl hT2 ho0 ?_
  refine sp_ite (fun h3 => ?_) (fun h3 => ?_)
  · refine s_if0 rfl (zc_le0 h3) ?_
    refine s_aload rfl rfl ?_
    refine s_getF rfl hT2 ho0 rfl ?_
    refine s_aload rfl rfl ?_
    refine s_getI rfl hT2 ho0 ?_
    refine s_const rfl ?_
    refine s_bin rfl rfl ?_
    refine s_iald rfl hT2 (of_10_45 ho0) ?_
    refine s_const rfl ?_
    refine sp_ite (fun h4 => ?_) (fun h4 => ?_)
    · refine s_ic0 rfl (zc_ne0 h4) ?_
      refine s_aload rfl rfl ?_
      refine s_dup rfl rfl ?_
      refine s_getI rfl hT2 ho0 ?_
      refine s_const rfl ?_
      refine s_bin rfl rfl ?_
      refine s_putI rfl hT2 ho0 rfl (fun w5 hT5 => ?_)
      refine s_aload rfl rfl ?_
      refine s_dup rfl rfl ?_
      refine s_getI rfl hT5 ho0 ?_
      refine s_const rfl ?_
      refine s_bin rfl rfl ?_
      refine s_putI rfl hT5 ho0 rfl (fun w6 hT6 => ?_)
      refine s_aload rfl rfl ?_
      refine s_const rfl ?_
      refine s_const rfl ?_
      refine s_const rfl ?_
      refine s_callV [.ref o0, .int 10, .int 0, .int 0] [] rfl rfl (Nat.le_of_ble_eq_true rfl) (ev_274 (d := d) (by omega) hT6 ho0) (fun _ w7 hT7 => ?_)
      refine s_goto rfl ?_
      exact s_back (lvL := lvL1) (s' := ()) (subl_c rfl (subl_n)) hT7 (fun _ _ h => h)
    · refine s_ic1 rfl (zc_ne1 h4) ?_
      exact s_retV rfl rfl hT2 (fun _ _ h => h)
  · refine s_if1 rfl (zc_le1 h3) ?_
    exact s_retV rfl rfl hT2 (fun _ _ h => h)
/-- RugReaderModel.joins(I)V -/
def sh_275 (o0 : Nat) (p1 : Int32) (w : Wd) : Option (Unit × Wd) := itM (fun (s13 : Unit) (w2 : Wd) => if 0 < wI w2 o0 48 then (gd (ib ((wI w2 o0 48) - 1) 45) (jn (fun (s12 : Unit) (w5 : Wd) => stI w5 o0 48 ((wI w5 o0 48) - 1) (fun w6 => gd (ib (wI w6 o0 48) 45) (cl (sh_274 o0 (wI w6 (o0 + 20) (ix (wI w6 o0 48))) 0 0 w6) (fun _ w7 => some (.inl (), w7))))) (fun j4 => if wI w2 (o0 + 20) (ix ((wI w2 o0 48) - 1)) = 11 then (j4 () w2) else (gd (ib ((wI w2 o0 48) - 1) 45) (if wI w2 (o0 + 20) (ix ((wI w2 o0 48) - 1)) = 12 then (if p1 = 12 then (j4 () w2) else (some (.inr (()), w2))) else (some (.inr (()), w2))))))) else (some (.inr (()), w2))) FU () w
set_option maxRecDepth 20000 in
set_option maxHeartbeats 4000000 in
theorem ev_275 {d : Nat} (hd : 2 ≤ d) {o0 : Nat} {p1 : Int32} {w : Wd} (hT : TY w) (ho0 : ist o0 10) : sp (sh_275 o0 p1 w) (fun r w' => TY w' ∧ Ev d 275 [.ref o0, .int p1] w (cvV r) w') := by
  obtain ⟨d, rfl⟩ : ∃ d', d = d' + 1 := ⟨d - 1, by omega⟩
  refine ev_of (M := M275) zin_275 rfl (by decide) rfl (Nat.le_of_ble_eq_true rfl) (Or.inr ⟨o0, _, rfl, ho0⟩) hT ?_
  show sp _ (PP (Ev d) M275 (KR cvV) (0, [(0, .ref o0), (1, .int p1)], [], w))
  unfold sh_275
  let lvL1 : Unit → List (Nat × Value) := fun s13 => [(0, .ref o0), (1, .int p1)]
  refine s_loop lvL1 (subl_c rfl (subl_c rfl (subl_n))) hT (fun s13 w2 hT2 => ?_)
  show sp _ (PP _ _ _ (0, [(0, .ref o0), (1, .int p1)], [], w2))
  refine s_aload rfl rfl ?_
  refine s_getI rfl hT2 ho0 ?_
  refine sp_ite (fun h3 => ?_) (fun h3 => ?_)
  · refine s_if0 rfl (zc_le0 h3) ?_
    refine s_aload rfl rfl ?_
    refine s_getF rfl hT2 ho0 rfl ?_
    refine s_aload rfl rfl ?_
    refine s_getI rfl hT2 ho0 ?_
    refine s_const rfl ?_
    refine s_bin rfl rfl ?_
    refine s_iald rfl hT2 (of_10_45 ho0) ?_
    refine s_const rfl ?_
    refine s_jnP (fun (s12 : Unit) w => (45, [(0, .ref o0), (1, .int p1)], [], w)) (fun s12 w5 hT5 => ?_) (fun j4 hj4 => ?_)
    · show sp _ (PP _ _ _ (45, [(0, .ref o0), (1, .int p1)], [], w5))
      refine s_aload rfl rfl ?_
      refine s_dup rfl rfl ?_
      refine s_getI rfl hT5 ho0 ?_
      refine s_const rfl ?_
      refine s_bin rfl rfl ?_
      refine s_putI rfl hT5 ho0 rfl (fun w6 hT6 => ?_)
      refine s_aload rfl rfl ?_
      refine s_aload rfl rfl ?_
      refine s_getF rfl hT6 ho0 rfl ?_
      refine s_aload rfl rfl ?_
      refine s_getI rfl hT6 ho0 ?_
      refine s_iald rfl hT6 (of_10_45 ho0) ?_
      refine s_const rfl ?_
      refine s_const rfl ?_
      refine s_callV [.ref o0, .int (wI w6 (o0 + 20) (ix (wI w6 o0 48))), .int 0, .int 0] [] rfl rfl (Nat.le_of_ble_eq_true rfl) (ev_274 (d := d) (by omega) hT6 ho0) (fun _ w7 hT7 => ?_)
      refine s_goto rfl ?_
      exact s_back (lvL := lvL1) (s' := ()) (subl_c rfl (subl_c rfl (subl_n))) hT7 (fun _ _ h => h)
    · refine sp_ite (fun h9 => ?_) (fun h9 => ?_)
      · refine s_ic1 rfl (zc_eq1 h9) ?_
        exact s_fgt _ (subl_c rfl (subl_c rfl (subl_n))) (hj4 () w2 hT2)
      · refine s_ic0 rfl (zc_eq0 h9) ?_
        refine s_aload rfl rfl ?_
        refine s_getF rfl hT2 ho0 rfl ?_
        refine s_aload rfl rfl ?_
        refine s_getI rfl hT2 ho0 ?_
        refine s_const rfl ?_
        refine s_bin rfl rfl ?_
        refine s_iald rfl hT2 (of_10_45 ho0) ?_
        refine s_const rfl ?_
        refine sp_ite (fun h10 => ?_) (fun h10 => ?_)
        · refine s_ic0 rfl (zc_ne0 h10) ?_
          refine s_iload rfl rfl ?_
          refine s_const rfl ?_
          refine sp_ite (fun h11 => ?_) (fun h11 => ?_)
          · refine s_ic0 rfl (zc_ne0 h11) ?_
            exact s_fgt _ (subl_c rfl (subl_c rfl (subl_n))) (hj4 () w2 hT2)
          · refine s_ic1 rfl (zc_ne1 h11) ?_
            exact s_retV rfl rfl hT2 (fun _ _ h => h)
        · refine s_ic1 rfl (zc_ne1 h10) ?_
          exact s_retV rfl rfl hT2 (fun _ _ h => h)
  · refine s_if1 rfl (zc_le1 h3) ?_
    exact s_retV rfl rfl hT2 (fun _ _ h => h)
/-- RugReaderModel.behind()Z -/
def sh_276 (o0 : Nat) (w : Wd) : Option (Bool × Wd) := cl (sh_273 o0 w) (fun _ w1 => cl (sh_196 o0 6385252 w1) (fun r4 w3 => jn (fun (s42 : Unit) (w6 : Wd) => cl (sh_196 o0 6385252 w6) (fun r8 w7 => lt (if r8 = true then 11 else 12 : Int32) (fun z9 => cl (sh_275 o0 z9 w7) (fun _ w10 => cl (sh_196 o0 6385252 w10) (fun r13 w12 => lt (if r13 = true then 11 else 12 : Int32) (fun z14 => gd (ib (wI w10 o0 48) 45) (stI w12 (o0 + 20) (ix (wI w10 o0 48)) z14 (fun w15 => stI w15 o0 48 ((wI w15 o0 48) + 1) (fun w16 => stI w16 o0 50 0 (fun w17 => cl (sh_191 o0 w17) (fun _ w18 => some (true, w18)))))))))))) (fun j5 => if r4 = true then (j5 () w3) else (cl (sh_196 o0 28530 w3) (fun r26 w25 => if r26 = true then (j5 () w25) else (cl (sh_275 o0 12 w25) (fun _ w28 => cl (sh_205 o0 41 w28) (fun r31 w30 => if r31 = true then (if wI w30 o0 48 = 0 then (cl (sh_197 o0 1 w30) (fun r35 w34 => some (r35, w34))) else (stI w30 o0 48 ((wI w30 o0 48) - 1) (fun w36 => stI w36 o0 49 ((wI w36 o0 49) - 1) (fun w37 => cl (sh_191 o0 w37) (fun _ w38 => some (true, w38)))))) else (cl (sh_197 o0 1 w30) (fun r41 w40 => some (r41, w40)))))))))))
set_option maxRecDepth 20000 in
set_option maxHeartbeats 4000000 in
theorem ev_276 {d : Nat} (hd : 3 ≤ d) {o0 : Nat} {w : Wd} (hT : TY w) (ho0 : ist o0 10) : sp (sh_276 o0 w) (fun r w' => TY w' ∧ Ev d 276 [.ref o0] w (cvZ r) w') := by
  obtain ⟨d, rfl⟩ : ∃ d', d = d' + 1 := ⟨d - 1, by omega⟩
  refine ev_of (M := M276) zin_276 rfl (by decide) rfl (Nat.le_of_ble_eq_true rfl) (Or.inr ⟨o0, _, rfl, ho0⟩) hT ?_
  show sp _ (PP (Ev d) M276 (KR cvZ) (0, [(0, .ref o0)], [], w))
  unfold sh_276
  refine s_aload rfl rfl ?_
  refine s_callV [.ref o0] [] rfl rfl (Nat.le_of_ble_eq_true rfl) (ev_273 (d := d) (by omega) hT ho0) (fun _ w1 hT1 => ?_)
  refine s_aload rfl rfl ?_
  refine s_lconst (x := 6385252) rfl rfl ?_
  refine s_callZ [.ref o0, .long 6385252] [] rfl rfl (Nat.le_of_ble_eq_true rfl) (ev_196 (d := d) (by omega) hT1 ho0) (fun r4 w3 hT3 => ?_)
  refine s_jnP (fun (s42 : Unit) w => (24, [(0, .ref o0)], [], w)) (fun s42 w6 hT6 => ?_) (fun j5 hj5 => ?_)
  · show sp _ (PP _ _ _ (24, [(0, .ref o0)], [], w6))
    refine s_aload rfl rfl ?_
    refine s_aload rfl rfl ?_
    refine s_lconst (x := 6385252) rfl rfl ?_
    refine s_callZ [.ref o0, .long 6385252] [.ref o0] rfl rfl (Nat.le_of_ble_eq_true rfl) (ev_196 (d := d) (by omega) hT6 ho0) (fun r8 w7 hT7 => ?_)
    refine sp_lt (fun z9 hz9 => ?_)
    refine s_dia (42, [(0, .ref o0)], [.int z9, .ref o0], w7) ?_ (fun hk22 => ?_)
    · refine s_callV [.ref o0, .int z9] [] rfl rfl (Nat.le_of_ble_eq_true rfl) (ev_275 (d := d) (by omega) hT7 ho0) (fun _ w10 hT10 => ?_)
      refine s_aload rfl rfl ?_
      refine s_getF rfl hT10 ho0 rfl ?_
      refine s_aload rfl rfl ?_
      refine s_getI rfl hT10 ho0 ?_
      refine s_aload rfl rfl ?_
      refine s_lconst (x := 6385252) rfl rfl ?_
      refine s_callZ [.ref o0, .long 6385252] [.int (wI w10 o0 48), .ref (o0 + 20)] rfl rfl (Nat.le_of_ble_eq_true rfl) (ev_196 (d := d) (by omega) hT10 ho0) (fun r13 w12 hT12 => ?_)
      refine sp_lt (fun z14 hz14 => ?_)
      refine s_dia (70, [(0, .ref o0)], [.int z14, .int (wI w10 o0 48), .ref (o0 + 20)], w12) ?_ (fun hk20 => ?_)
      · refine s_iast rfl hT12 (of_10_45 ho0) (fun w15 hT15 => ?_)
        refine s_aload rfl rfl ?_
        refine s_dup rfl rfl ?_
        refine s_getI rfl hT15 ho0 ?_
        refine s_const rfl ?_
        refine s_bin rfl rfl ?_
        refine s_putI rfl hT15 ho0 rfl (fun w16 hT16 => ?_)
        refine s_aload rfl rfl ?_
        refine s_const rfl ?_
        refine s_putZ rfl hT16 ho0 rfl (Or.inl rfl) (fun w17 hT17 => ?_)
        refine s_aload rfl rfl ?_
        refine s_callV [.ref o0] [] rfl rfl (Nat.le_of_ble_eq_true rfl) (ev_191 (d := d) (by omega) hT17 ho0) (fun _ w18 hT18 => ?_)
        refine s_const rfl ?_
        exact s_retZ (z := true) rfl rfl hT18 (fun _ _ h => h)
      · by_cases h21 : r13 = true
        · refine s_if0 rfl (zb_eq0 h21) ?_
          refine s_const rfl ?_
          refine s_goto rfl ?_
          refine s_cong ?_ hk20
          (rw [hz14, if_pos h21])
        · refine s_if1 rfl (zb_eq1 h21) ?_
          refine s_const rfl ?_
          refine s_cong ?_ hk20
          (rw [hz14, if_neg h21])
    · by_cases h23 : r8 = true
      · refine s_if0 rfl (zb_eq0 h23) ?_
        refine s_const rfl ?_
        refine s_goto rfl ?_
        refine s_cong ?_ hk22
        (rw [hz9, if_pos h23])
      · refine s_if1 rfl (zb_eq1 h23) ?_
        refine s_const rfl ?_
        refine s_cong ?_ hk22
        (rw [hz9, if_neg h23])
  · refine sp_ite (fun h24 => ?_) (fun h24 => ?_)
    · refine s_if1 rfl (zb_ne1 h24) ?_
      exact s_fgt _ (subl_c rfl (subl_n)) (hj5 () w3 hT3)
    · refine s_if0 rfl (zb_ne0 h24) ?_
      refine s_aload rfl rfl ?_
      refine s_lconst (x := 28530) rfl rfl ?_
      refine s_callZ [.ref o0, .long 28530] [] rfl rfl (Nat.le_of_ble_eq_true rfl) (ev_196 (d := d) (by omega) hT3 ho0) (fun r26 w25 hT25 => ?_)
      refine sp_ite (fun h27 => ?_) (fun h27 => ?_)
      · refine s_if0 rfl (zb_eq0 h27) ?_
        exact s_fgt _ (subl_c rfl (subl_n)) (hj5 () w25 hT25)
      · refine s_if1 rfl (zb_eq1 h27) ?_
        refine s_aload rfl rfl ?_
        refine s_const rfl ?_
        refine s_callV [.ref o0, .int 12] [] rfl rfl (Nat.le_of_ble_eq_true rfl) (ev_275 (d := d) (by omega) hT25 ho0) (fun _ w28 hT28 => ?_)
        refine s_aload rfl rfl ?_
        refine s_const rfl ?_
        refine s_callZ [.ref o0, .int 41] [] rfl rfl (Nat.le_of_ble_eq_true rfl) (ev_205 (d := d) (by omega) hT28 ho0) (fun r31 w30 hT30 => ?_)
        refine sp_ite (fun h32 => ?_) (fun h32 => ?_)
        · refine s_if0 rfl (zb_eq0 h32) ?_
          refine s_aload rfl rfl ?_
          refine s_getI rfl hT30 ho0 ?_
          refine sp_ite (fun h33 => ?_) (fun h33 => ?_)
          · refine s_if0 rfl (zc_ne0 h33) ?_
            refine s_aload rfl rfl ?_
            refine s_const rfl ?_
            refine s_callZ [.ref o0, .int 1] [] rfl rfl (Nat.le_of_ble_eq_true rfl) (ev_197 (d := d) (by omega) hT30 ho0) (fun r35 w34 hT34 => ?_)
            exact s_retZ (z := r35) rfl rfl hT34 (fun _ _ h => h)
          · refine s_if1 rfl (zc_ne1 h33) ?_
            refine s_aload rfl rfl ?_
            refine s_dup rfl rfl ?_
            refine s_getI rfl hT30 ho0 ?_
            refine s_const rfl ?_
            refine s_bin rfl rfl ?_
            refine s_putI rfl hT30 ho0 rfl (fun w36 hT36 => ?_)
            refine s_aload rfl rfl ?_
            refine s_dup rfl rfl ?_
            refine s_getI rfl hT36 ho0 ?_
            refine s_const rfl ?_
            refine s_bin rfl rfl ?_
            refine s_putI rfl hT36 ho0 rfl (fun w37 hT37 => ?_)
            refine s_aload rfl rfl ?_
            refine s_callV [.ref o0] [] rfl rfl (Nat.le_of_ble_eq_true rfl) (ev_191 (d := d) (by omega) hT37 ho0) (fun _ w38 hT38 => ?_)
            refine s_const rfl ?_
            exact s_retZ (z := true) rfl rfl hT38 (fun _ _ h => h)
        · refine s_if1 rfl (zb_eq1 h32) ?_
          refine s_aload rfl rfl ?_
          refine s_const rfl ?_
          refine s_callZ [.ref o0, .int 1] [] rfl rfl (Nat.le_of_ble_eq_true rfl) (ev_197 (d := d) (by omega) hT30 ho0) (fun r41 w40 hT40 => ?_)
          exact s_retZ (z := r41) rfl rfl hT40 (fun _ _ h => h)
/-- RugReaderModel.leafOf()I -/
def sh_278 (o0 : Nat) (w : Wd) : Option (Int32 × Wd) := cl (sh_196 o0 1953656676 w) (fun r2 w1 => if r2 = true then (some (0, w1)) else (cl (sh_196 o0 131277443786868 w1) (fun r5 w4 => if r5 = true then (some (1, w4)) else (cl (sh_196 o0 1936682085 w4) (fun r8 w7 => if r8 = true then (some (2, w7)) else (cl (sh_196 o0 1885430629 w7) (fun r11 w10 => if r11 = true then (some (3, w10)) else (cl (sh_196 o0 123636697429107 w10) (fun r14 w13 => if r14 = true then (some (4, w13)) else (cl (sh_196 o0 500185855091 w13) (fun r17 w16 => if r17 = true then (some (5, w16)) else (cl (sh_196 o0 482854658917 w16) (fun r20 w19 => if r20 = true then (some (6, w19)) else (some ((-1), w19)))))))))))))))
set_option maxRecDepth 20000 in
set_option maxHeartbeats 4000000 in
theorem ev_278 {d : Nat} (hd : 2 ≤ d) {o0 : Nat} {w : Wd} (hT : TY w) (ho0 : ist o0 10) : sp (sh_278 o0 w) (fun r w' => TY w' ∧ Ev d 278 [.ref o0] w (cvI r) w') := by
  obtain ⟨d, rfl⟩ : ∃ d', d = d' + 1 := ⟨d - 1, by omega⟩
  refine ev_of (M := M278) zin_278 rfl (by decide) rfl (Nat.le_of_ble_eq_true rfl) (Or.inr ⟨o0, _, rfl, ho0⟩) hT ?_
  show sp _ (PP (Ev d) M278 (KR cvI) (0, [(0, .ref o0)], [], w))
  unfold sh_278
  refine s_aload rfl rfl ?_
  refine s_lconst (x := 1953656676) rfl rfl ?_
  refine s_callZ [.ref o0, .long 1953656676] [] rfl rfl (Nat.le_of_ble_eq_true rfl) (ev_196 (d := d) (by omega) hT ho0) (fun r2 w1 hT1 => ?_)
  refine sp_ite (fun h3 => ?_) (fun h3 => ?_)
  · refine s_if0 rfl (zb_eq0 h3) ?_
    refine s_const rfl ?_
    refine s_goto rfl ?_
    exact s_retI rfl rfl hT1 (fun _ _ h => h)
  · refine s_if1 rfl (zb_eq1 h3) ?_
    refine s_aload rfl rfl ?_
    refine s_lconst (x := 131277443786868) rfl rfl ?_
    refine s_callZ [.ref o0, .long 131277443786868] [] rfl rfl (Nat.le_of_ble_eq_true rfl) (ev_196 (d := d) (by omega) hT1 ho0) (fun r5 w4 hT4 => ?_)
    refine sp_ite (fun h6 => ?_) (fun h6 => ?_)
    · refine s_if0 rfl (zb_eq0 h6) ?_
      refine s_const rfl ?_
      refine s_goto rfl ?_
      exact s_retI rfl rfl hT4 (fun _ _ h => h)
    · refine s_if1 rfl (zb_eq1 h6) ?_
      refine s_aload rfl rfl ?_
      refine s_lconst (x := 1936682085) rfl rfl ?_
      refine s_callZ [.ref o0, .long 1936682085] [] rfl rfl (Nat.le_of_ble_eq_true rfl) (ev_196 (d := d) (by omega) hT4 ho0) (fun r8 w7 hT7 => ?_)
      refine sp_ite (fun h9 => ?_) (fun h9 => ?_)
      · refine s_if0 rfl (zb_eq0 h9) ?_
        refine s_const rfl ?_
        refine s_goto rfl ?_
        exact s_retI rfl rfl hT7 (fun _ _ h => h)
      · refine s_if1 rfl (zb_eq1 h9) ?_
        refine s_aload rfl rfl ?_
        refine s_lconst (x := 1885430629) rfl rfl ?_
        refine s_callZ [.ref o0, .long 1885430629] [] rfl rfl (Nat.le_of_ble_eq_true rfl) (ev_196 (d := d) (by omega) hT7 ho0) (fun r11 w10 hT10 => ?_)
        refine sp_ite (fun h12 => ?_) (fun h12 => ?_)
        · refine s_if0 rfl (zb_eq0 h12) ?_
          refine s_const rfl ?_
          refine s_goto rfl ?_
          exact s_retI rfl rfl hT10 (fun _ _ h => h)
        · refine s_if1 rfl (zb_eq1 h12) ?_
          refine s_aload rfl rfl ?_
          refine s_lconst (x := 123636697429107) rfl rfl ?_
          refine s_callZ [.ref o0, .long 123636697429107] [] rfl rfl (Nat.le_of_ble_eq_true rfl) (ev_196 (d := d) (by omega) hT10 ho0) (fun r14 w13 hT13 => ?_)
          refine sp_ite (fun h15 => ?_) (fun h15 => ?_)
          · refine s_if0 rfl (zb_eq0 h15) ?_
            refine s_const rfl ?_
            refine s_goto rfl ?_
            exact s_retI rfl rfl hT13 (fun _ _ h => h)
          · refine s_if1 rfl (zb_eq1 h15) ?_
            refine s_aload rfl rfl ?_
            refine s_lconst (x := 500185855091) rfl rfl ?_
            refine s_callZ [.ref o0, .long 500185855091] [] rfl rfl (Nat.le_of_ble_eq_true rfl) (ev_196 (d := d) (by omega) hT13 ho0) (fun r17 w16 hT16 => ?_)
            refine sp_ite (fun h18 => ?_) (fun h18 => ?_)
            · refine s_if0 rfl (zb_eq0 h18) ?_
              refine s_const rfl ?_
              refine s_goto rfl ?_
              exact s_retI rfl rfl hT16 (fun _ _ h => h)
            · refine s_if1 rfl (zb_eq1 h18) ?_
              refine s_aload rfl rfl ?_
              refine s_lconst (x := 482854658917) rfl rfl ?_
              refine s_callZ [.ref o0, .long 482854658917] [] rfl rfl (Nat.le_of_ble_eq_true rfl) (ev_196 (d := d) (by omega) hT16 ho0) (fun r20 w19 hT19 => ?_)
              refine sp_ite (fun h21 => ?_) (fun h21 => ?_)
              · refine s_if0 rfl (zb_eq0 h21) ?_
                refine s_const rfl ?_
                refine s_goto rfl ?_
                exact s_retI rfl rfl hT19 (fun _ _ h => h)
              · refine s_if1 rfl (zb_eq1 h21) ?_
                refine s_const rfl ?_
                exact s_retI rfl rfl hT19 (fun _ _ h => h)
/-- RugReaderModel.operand()Z -/
def sh_277 (o0 : Nat) (w : Wd) : Option (Bool × Wd) := cl (sh_196 o0 7237492 w) (fun r2 w1 => cl (sh_205 o0 40 w1) (fun r4 w3 => cl (sh_278 o0 w3) (fun r6 w5 => jn (fun (s69 : Unit) (w8 : Wd) => if wI w8 o0 47 = 20 then (cl (sh_197 o0 4 w8) (fun r11 w10 => some (r11, w10))) else (if 8 < wI w8 o0 49 then (cl (sh_197 o0 4 w8) (fun r14 w13 => some (r14, w13))) else (stI w8 o0 47 ((wI w8 o0 47) + 1) (fun w15 => cl (sh_191 o0 w15) (fun _ w16 => jn (fun (s63 : Unit) (w19 : Wd) => lt (if r2 = true then 10 else 13 : Int32) (fun z20 => gd (ib (wI w19 o0 48) 45) (stI w19 (o0 + 20) (ix (wI w19 o0 48)) z20 (fun w21 => stI w21 o0 48 ((wI w21 o0 48) + 1) (fun w22 => stI w22 o0 49 ((wI w22 o0 49) + 1) (fun w23 => some (true, w23))))))) (fun j18 => if r2 = true then (j18 () w16) else (if r4 = true then (j18 () w16) else (stI w16 o0 50 1 (fun w28 => if r6 = 0 then (cl (sh_201 o0 w28) (fun r31 w30 => if r31 = true then (gd (ib 3 10265) (cl (sh_202 o0 6 (wI w30 (o0 + 2) (ix 3)) w30) (fun r34 w33 => if r34 < 0 then (cl (sh_197 o0 3 w33) (fun r37 w36 => some (r37, w36))) else (cl (sh_274 o0 r6 0 r34 w33) (fun _ w38 => cl (sh_191 o0 w38) (fun _ w40 => some (true, w40))))))) else (cl (sh_197 o0 1 w30) (fun r43 w42 => some (r43, w42))))) else (if wI w28 o0 11 = 3 then (if 60 ≤ wI w28 o0 14 then (if 62 < wI w28 o0 14 then (cl (sh_197 o0 1 w28) (fun r48 w47 => some (r48, w47))) else (lt (wI w28 o0 14 : Int32) (fun v4_49 => cl (sh_191 o0 w28) (fun _ w50 => if wI w50 o0 11 = 2 then (cl (sh_274 o0 r6 v4_49 (wI w50 o0 14) w50) (fun _ w53 => cl (sh_191 o0 w53) (fun _ w55 => some (true, w55)))) else (cl (sh_197 o0 1 w50) (fun r58 w57 => some (r58, w57))))))) else (cl (sh_197 o0 1 w28) (fun r60 w59 => some (r60, w59)))) else (cl (sh_197 o0 1 w28) (fun r62 w61 => some (r62, w61))))))))))))) (fun j7 => if r2 = true then (j7 () w5) else (if r4 = true then (j7 () w5) else (if r6 < 0 then (cl (sh_197 o0 1 w5) (fun r68 w67 => some (r68, w67))) else (j7 () w5)))))))
set_option maxRecDepth 20000 in
set_option maxHeartbeats 4000000 in
theorem ev_277 {d : Nat} (hd : 3 ≤ d) {o0 : Nat} {w : Wd} (hT : TY w) (ho0 : ist o0 10) : sp (sh_277 o0 w) (fun r w' => TY w' ∧ Ev d 277 [.ref o0] w (cvZ r) w') := by
  obtain ⟨d, rfl⟩ : ∃ d', d = d' + 1 := ⟨d - 1, by omega⟩
  refine ev_of (M := M277) zin_277 rfl (by decide) rfl (Nat.le_of_ble_eq_true rfl) (Or.inr ⟨o0, _, rfl, ho0⟩) hT ?_
  show sp _ (PP (Ev d) M277 (KR cvZ) (0, [(0, .ref o0)], [], w))
  unfold sh_277
  refine s_aload rfl rfl ?_
  refine s_lconst (x := 7237492) rfl rfl ?_
  refine s_callZ [.ref o0, .long 7237492] [] rfl rfl (Nat.le_of_ble_eq_true rfl) (ev_196 (d := d) (by omega) hT ho0) (fun r2 w1 hT1 => ?_)
  refine s_istoreF [(0, .ref o0), (1, .int (bi r2))] rfl (subl_c rfl (subl_c rfl (subl_n))) ?_
  refine s_aload rfl rfl ?_
  refine s_const rfl ?_
  refine s_callZ [.ref o0, .int 40] [] rfl rfl (Nat.le_of_ble_eq_true rfl) (ev_205 (d := d) (by omega) hT1 ho0) (fun r4 w3 hT3 => ?_)
  refine s_istoreF [(0, .ref o0), (1, .int (bi r2)), (2, .int (bi r4))] rfl (subl_c rfl (subl_c rfl (subl_c rfl (subl_n)))) ?_
  refine s_aload rfl rfl ?_
  refine s_callI [.ref o0] [] rfl rfl (Nat.le_of_ble_eq_true rfl) (ev_278 (d := d) (by omega) hT3 ho0) (fun r6 w5 hT5 => ?_)
  refine s_istoreF [(0, .ref o0), (1, .int (bi r2)), (2, .int (bi r4)), (3, .int r6)] rfl (subl_c rfl (subl_c rfl (subl_c rfl (subl_c rfl (subl_n))))) ?_
  refine s_iload rfl rfl ?_
  refine s_jnP (fun (s69 : Unit) w => (38, [(0, .ref o0), (1, .int (bi r2)), (2, .int (bi r4)), (3, .int r6)], [], w)) (fun s69 w8 hT8 => ?_) (fun j7 hj7 => ?_)
  · show sp _ (PP _ _ _ (38, [(0, .ref o0), (1, .int (bi r2)), (2, .int (bi r4)), (3, .int r6)], [], w8))
    refine s_aload rfl rfl ?_
    refine s_getI rfl hT8 ho0 ?_
    refine s_const rfl ?_
    refine sp_ite (fun h9 => ?_) (fun h9 => ?_)
    · refine s_ic1 rfl (zc_eq1 h9) ?_
      refine s_aload rfl rfl ?_
      refine s_const rfl ?_
      refine s_callZ [.ref o0, .int 4] [] rfl rfl (Nat.le_of_ble_eq_true rfl) (ev_197 (d := d) (by omega) hT8 ho0) (fun r11 w10 hT10 => ?_)
      exact s_retZ (z := r11) rfl rfl hT10 (fun _ _ h => h)
    · refine s_ic0 rfl (zc_eq0 h9) ?_
      refine s_aload rfl rfl ?_
      refine s_getI rfl hT8 ho0 ?_
      refine s_const rfl ?_
      refine sp_ite (fun h12 => ?_) (fun h12 => ?_)
      · refine s_ic0 rfl (zc_le0 h12) ?_
        refine s_aload rfl rfl ?_
        refine s_const rfl ?_
        refine s_callZ [.ref o0, .int 4] [] rfl rfl (Nat.le_of_ble_eq_true rfl) (ev_197 (d := d) (by omega) hT8 ho0) (fun r14 w13 hT13 => ?_)
        exact s_retZ (z := r14) rfl rfl hT13 (fun _ _ h => h)
      · refine s_ic1 rfl (zc_le1 h12) ?_
        refine s_aload rfl rfl ?_
        refine s_dup rfl rfl ?_
        refine s_getI rfl hT8 ho0 ?_
        refine s_const rfl ?_
        refine s_bin rfl rfl ?_
        refine s_putI rfl hT8 ho0 rfl (fun w15 hT15 => ?_)
        refine s_aload rfl rfl ?_
        refine s_callV [.ref o0] [] rfl rfl (Nat.le_of_ble_eq_true rfl) (ev_191 (d := d) (by omega) hT15 ho0) (fun _ w16 hT16 => ?_)
        refine s_iload rfl rfl ?_
        refine s_jnP (fun (s63 : Unit) w => (84, [(0, .ref o0), (1, .int (bi r2))], [], w)) (fun s63 w19 hT19 => ?_) (fun j18 hj18 => ?_)
        · show sp _ (PP _ _ _ (84, [(0, .ref o0), (1, .int (bi r2))], [], w19))
          refine s_aload rfl rfl ?_
          refine s_getF rfl hT19 ho0 rfl ?_
          refine s_aload rfl rfl ?_
          refine s_getI rfl hT19 ho0 ?_
          refine s_iload rfl rfl ?_
          refine sp_lt (fun z20 hz20 => ?_)
          refine s_dia (103, [(0, .ref o0), (1, .int (bi r2))], [.int z20, .int (wI w19 o0 48), .ref (o0 + 20)], w19) ?_ (fun hk24 => ?_)
          · refine s_iast rfl hT19 (of_10_45 ho0) (fun w21 hT21 => ?_)
            refine s_aload rfl rfl ?_
            refine s_dup rfl rfl ?_
            refine s_getI rfl hT21 ho0 ?_
            refine s_const rfl ?_
            refine s_bin rfl rfl ?_
            refine s_putI rfl hT21 ho0 rfl (fun w22 hT22 => ?_)
            refine s_aload rfl rfl ?_
            refine s_dup rfl rfl ?_
            refine s_getI rfl hT22 ho0 ?_
            refine s_const rfl ?_
            refine s_bin rfl rfl ?_
            refine s_putI rfl hT22 ho0 rfl (fun w23 hT23 => ?_)
            refine s_const rfl ?_
            exact s_retZ (z := true) rfl rfl hT23 (fun _ _ h => h)
          · by_cases h25 : r2 = true
            · refine s_if0 rfl (zb_eq0 h25) ?_
              refine s_const rfl ?_
              refine s_goto rfl ?_
              refine s_cong ?_ hk24
              (rw [hz20, if_pos h25])
            · refine s_if1 rfl (zb_eq1 h25) ?_
              refine s_const rfl ?_
              refine s_cong ?_ hk24
              (rw [hz20, if_neg h25])
        · refine sp_ite (fun h26 => ?_) (fun h26 => ?_)
          · refine s_if1 rfl (zb_ne1 h26) ?_
            exact s_fgt _ (subl_c rfl (subl_c rfl (subl_n))) (hj18 () w16 hT16)
          · refine s_if0 rfl (zb_ne0 h26) ?_
            refine s_iload rfl rfl ?_
            refine sp_ite (fun h27 => ?_) (fun h27 => ?_)
            · refine s_if0 rfl (zb_eq0 h27) ?_
              exact s_fgt _ (subl_c rfl (subl_c rfl (subl_n))) (hj18 () w16 hT16)
            · refine s_if1 rfl (zb_eq1 h27) ?_
              refine s_aload rfl rfl ?_
              refine s_const rfl ?_
              refine s_putZ rfl hT16 ho0 rfl (Or.inr rfl) (fun w28 hT28 => ?_)
              refine s_iload rfl rfl ?_
              refine sp_ite (fun h29 => ?_) (fun h29 => ?_)
              · refine s_if0 rfl (zc_ne0 h29) ?_
                refine s_aload rfl rfl ?_
                refine s_callZ [.ref o0] [] rfl rfl (Nat.le_of_ble_eq_true rfl) (ev_201 (d := d) (by omega) hT28 ho0) (fun r31 w30 hT30 => ?_)
                refine sp_ite (fun h32 => ?_) (fun h32 => ?_)
                · refine s_if1 rfl (zb_ne1 h32) ?_
                  refine s_aload rfl rfl ?_
                  refine s_const rfl ?_
                  refine s_aload rfl rfl ?_
                  refine s_getF rfl hT30 ho0 rfl ?_
                  refine s_const rfl ?_
                  refine s_iald rfl hT30 (of_10_6 ho0) ?_
                  refine s_callI [.ref o0, .int 6, .int (wI w30 (o0 + 2) (ix 3))] [] rfl rfl (Nat.le_of_ble_eq_true rfl) (ev_202 (d := d) (by omega) hT30 ho0) (fun r34 w33 hT33 => ?_)
                  refine s_istoreF [(0, .ref o0), (3, .int r6), (4, .int r34)] rfl (subl_c rfl (subl_c rfl (subl_c rfl (subl_n)))) ?_
                  refine s_iload rfl rfl ?_
                  refine sp_ite (fun h35 => ?_) (fun h35 => ?_)
                  · refine s_if0 rfl (zc_ge0 h35) ?_
                    refine s_aload rfl rfl ?_
                    refine s_const rfl ?_
                    refine s_callZ [.ref o0, .int 3] [] rfl rfl (Nat.le_of_ble_eq_true rfl) (ev_197 (d := d) (by omega) hT33 ho0) (fun r37 w36 hT36 => ?_)
                    exact s_retZ (z := r37) rfl rfl hT36 (fun _ _ h => h)
                  · refine s_if1 rfl (zc_ge1 h35) ?_
                    refine s_aload rfl rfl ?_
                    refine s_iload rfl rfl ?_
                    refine s_const rfl ?_
                    refine s_iload rfl rfl ?_
                    refine s_callV [.ref o0, .int r6, .int 0, .int r34] [] rfl rfl (Nat.le_of_ble_eq_true rfl) (ev_274 (d := d) (by omega) hT33 ho0) (fun _ w38 hT38 => ?_)
                    refine s_aload rfl rfl ?_
                    refine s_callV [.ref o0] [] rfl rfl (Nat.le_of_ble_eq_true rfl) (ev_191 (d := d) (by omega) hT38 ho0) (fun _ w40 hT40 => ?_)
                    refine s_const rfl ?_
                    exact s_retZ (z := true) rfl rfl hT40 (fun _ _ h => h)
                · refine s_if0 rfl (zb_ne0 h32) ?_
                  refine s_aload rfl rfl ?_
                  refine s_const rfl ?_
                  refine s_callZ [.ref o0, .int 1] [] rfl rfl (Nat.le_of_ble_eq_true rfl) (ev_197 (d := d) (by omega) hT30 ho0) (fun r43 w42 hT42 => ?_)
                  exact s_retZ (z := r43) rfl rfl hT42 (fun _ _ h => h)
              · refine s_if1 rfl (zc_ne1 h29) ?_
                refine s_aload rfl rfl ?_
                refine s_getI rfl hT28 ho0 ?_
                refine s_const rfl ?_
                refine sp_ite (fun h44 => ?_) (fun h44 => ?_)
                · refine s_ic0 rfl (zc_ne0 h44) ?_
                  refine s_aload rfl rfl ?_
                  refine s_getI rfl hT28 ho0 ?_
                  refine s_const rfl ?_
                  refine sp_ite (fun h45 => ?_) (fun h45 => ?_)
                  · refine s_ic0 rfl (zc_lt0 h45) ?_
                    refine s_aload rfl rfl ?_
                    refine s_getI rfl hT28 ho0 ?_
                    refine s_const rfl ?_
                    refine sp_ite (fun h46 => ?_) (fun h46 => ?_)
                    · refine s_ic0 rfl (zc_le0 h46) ?_
                      refine s_aload rfl rfl ?_
                      refine s_const rfl ?_
                      refine s_callZ [.ref o0, .int 1] [] rfl rfl (Nat.le_of_ble_eq_true rfl) (ev_197 (d := d) (by omega) hT28 ho0) (fun r48 w47 hT47 => ?_)
                      exact s_retZ (z := r48) rfl rfl hT47 (fun _ _ h => h)
                    · refine s_ic1 rfl (zc_le1 h46) ?_
                      refine s_aload rfl rfl ?_
                      refine s_getI rfl hT28 ho0 ?_
                      refine s_nmI (fun v4_49 => ?_)
                      refine s_istoreF [(0, .ref o0), (3, .int r6), (4, .int v4_49)] rfl (subl_c rfl (subl_c rfl (subl_c rfl (subl_n)))) ?_
                      refine s_aload rfl rfl ?_
                      refine s_callV [.ref o0] [] rfl rfl (Nat.le_of_ble_eq_true rfl) (ev_191 (d := d) (by omega) hT28 ho0) (fun _ w50 hT50 => ?_)
                      refine s_aload rfl rfl ?_
                      refine s_getI rfl hT50 ho0 ?_
                      refine s_const rfl ?_
                      refine sp_ite (fun h52 => ?_) (fun h52 => ?_)
                      · refine s_ic1 rfl (zc_eq1 h52) ?_
                        refine s_aload rfl rfl ?_
                        refine s_iload rfl rfl ?_
                        refine s_iload rfl rfl ?_
                        refine s_aload rfl rfl ?_
                        refine s_getI rfl hT50 ho0 ?_
                        refine s_callV [.ref o0, .int r6, .int v4_49, .int (wI w50 o0 14)] [] rfl rfl (Nat.le_of_ble_eq_true rfl) (ev_274 (d := d) (by omega) hT50 ho0) (fun _ w53 hT53 => ?_)
                        refine s_aload rfl rfl ?_
                        refine s_callV [.ref o0] [] rfl rfl (Nat.le_of_ble_eq_true rfl) (ev_191 (d := d) (by omega) hT53 ho0) (fun _ w55 hT55 => ?_)
                        refine s_const rfl ?_
                        exact s_retZ (z := true) rfl rfl hT55 (fun _ _ h => h)
                      · refine s_ic0 rfl (zc_eq0 h52) ?_
                        refine s_aload rfl rfl ?_
                        refine s_const rfl ?_
                        refine s_callZ [.ref o0, .int 1] [] rfl rfl (Nat.le_of_ble_eq_true rfl) (ev_197 (d := d) (by omega) hT50 ho0) (fun r58 w57 hT57 => ?_)
                        exact s_retZ (z := r58) rfl rfl hT57 (fun _ _ h => h)
                  · refine s_ic1 rfl (zc_lt1 h45) ?_
                    refine s_aload rfl rfl ?_
                    refine s_const rfl ?_
                    refine s_callZ [.ref o0, .int 1] [] rfl rfl (Nat.le_of_ble_eq_true rfl) (ev_197 (d := d) (by omega) hT28 ho0) (fun r60 w59 hT59 => ?_)
                    exact s_retZ (z := r60) rfl rfl hT59 (fun _ _ h => h)
                · refine s_ic1 rfl (zc_ne1 h44) ?_
                  refine s_aload rfl rfl ?_
                  refine s_const rfl ?_
                  refine s_callZ [.ref o0, .int 1] [] rfl rfl (Nat.le_of_ble_eq_true rfl) (ev_197 (d := d) (by omega) hT28 ho0) (fun r62 w61 hT61 => ?_)
                  exact s_retZ (z := r62) rfl rfl hT61 (fun _ _ h => h)
  · refine sp_ite (fun h64 => ?_) (fun h64 => ?_)
    · refine s_if1 rfl (zb_ne1 h64) ?_
      exact s_fgt _ (subl_c rfl (subl_c rfl (subl_c rfl (subl_c rfl (subl_n))))) (hj7 () w5 hT5)
    · refine s_if0 rfl (zb_ne0 h64) ?_
      refine s_iload rfl rfl ?_
      refine sp_ite (fun h65 => ?_) (fun h65 => ?_)
      · refine s_if1 rfl (zb_ne1 h65) ?_
        exact s_fgt _ (subl_c rfl (subl_c rfl (subl_c rfl (subl_c rfl (subl_n))))) (hj7 () w5 hT5)
      · refine s_if0 rfl (zb_ne0 h65) ?_
        refine s_iload rfl rfl ?_
        refine sp_ite (fun h66 => ?_) (fun h66 => ?_)
        · refine s_if0 rfl (zc_ge0 h66) ?_
          refine s_aload rfl rfl ?_
          refine s_const rfl ?_
          refine s_callZ [.ref o0, .int 1] [] rfl rfl (Nat.le_of_ble_eq_true rfl) (ev_197 (d := d) (by omega) hT5 ho0) (fun r68 w67 hT67 => ?_)
          exact s_retZ (z := r68) rfl rfl hT67 (fun _ _ h => h)
        · refine s_if1 rfl (zc_ge1 h66) ?_
          exact s_fgt _ (subl_c rfl (subl_c rfl (subl_c rfl (subl_c rfl (subl_n))))) (hj7 () w5 hT5)
/-- RugReaderModel.sentence()I -/
def sh_272 (o0 : Nat) (w : Wd) : Option (Int32 × Wd) := stI w o0 0 0 (fun w1 => cl (sh_190 o0 200 w1) (fun _ w2 => stI w2 o0 15 0 (fun w4 => stI w4 o0 46 0 (fun w5 => stI w5 o0 47 0 (fun w6 => stI w6 o0 48 0 (fun w7 => stI w7 o0 49 1 (fun w8 => stI w8 o0 50 0 (fun w9 => cl (sh_191 o0 w9) (fun _ w10 => itM (fun (v1_12 : Int32) (w14 : Wd) => if v1_12 = 0 then (gd (ib 10084 10265) (stI w14 (o0 + 2) (ix 10084) (wI w14 o0 46) (fun w16 => itM (fun (v2_17 : Int32) (w19 : Wd) => if v2_17 < 3 * (wI w19 o0 46) then (gd (ib v2_17 135) (gd (ib (10085 + v2_17) 10265) (stI w19 (o0 + 2) (ix (10085 + v2_17)) (wI w19 (o0 + 4) (ix v2_17)) (fun w21 => lt (v2_17 + 1 : Int32) (fun v2_22 => some (.inl v2_22, w21)))))) else (some (.inr (.inr (wI w19 o0 47)), w19))) FU 0 w16))) else (jn (fun (s42 : Unit) (w25 : Wd) => if wI w25 o0 50 = 0 then (cl (sh_277 o0 w25) (fun r28 w27 => if r28 = true then (some (.inl v1_12, w27)) else (some (.inr ((-1) - (wI w27 o0 16)), w27)))) else (cl (sh_276 o0 w25) (fun r31 w30 => if r31 = true then (some (.inl v1_12, w30)) else (some (.inr ((-1) - (wI w30 o0 16)), w30))))) (fun j24 => if wI w14 o0 50 = 0 then (j24 () w14) else (if wI w14 o0 11 = 0 then (cl (sh_273 o0 w14) (fun _ w35 => cl (sh_275 o0 12 w35) (fun _ w37 => if 0 < wI w37 o0 48 then (cl (sh_197 o0 1 w37) (fun r41 w40 => some (.inr ((-1) - (wI w40 o0 16)), w40))) else (some (.inl 0, w37))))) else (j24 () w14))))) FU 1 w10)))))))))
set_option maxRecDepth 20000 in
set_option maxHeartbeats 4000000 in
theorem ev_272 {d : Nat} (hd : 4 ≤ d) {o0 : Nat} {w : Wd} (hT : TY w) (ho0 : ist o0 10) : sp (sh_272 o0 w) (fun r w' => TY w' ∧ Ev d 272 [.ref o0] w (cvI r) w') := by
  obtain ⟨d, rfl⟩ : ∃ d', d = d' + 1 := ⟨d - 1, by omega⟩
  refine ev_of (M := M272) zin_272 rfl (by decide) rfl (Nat.le_of_ble_eq_true rfl) (Or.inr ⟨o0, _, rfl, ho0⟩) hT ?_
  show sp _ (PP (Ev d) M272 (KR cvI) (0, [(0, .ref o0)], [], w))
  unfold sh_272
  refine s_aload rfl rfl ?_
  refine s_const rfl ?_
  refine s_putI rfl hT ho0 rfl (fun w1 hT1 => ?_)
  refine s_aload rfl rfl ?_
  refine s_const rfl ?_
  refine s_callV [.ref o0, .int 200] [] rfl rfl (Nat.le_of_ble_eq_true rfl) (ev_190 (d := d) (by omega) hT1 ho0) (fun _ w2 hT2 => ?_)
  refine s_aload rfl rfl ?_
  refine s_const rfl ?_
  refine s_putI rfl hT2 ho0 rfl (fun w4 hT4 => ?_)
  refine s_aload rfl rfl ?_
  refine s_const rfl ?_
  refine s_putI rfl hT4 ho0 rfl (fun w5 hT5 => ?_)
  refine s_aload rfl rfl ?_
  refine s_const rfl ?_
  refine s_putI rfl hT5 ho0 rfl (fun w6 hT6 => ?_)
  refine s_aload rfl rfl ?_
  refine s_const rfl ?_
  refine s_putI rfl hT6 ho0 rfl (fun w7 hT7 => ?_)
  refine s_aload rfl rfl ?_
  refine s_const rfl ?_
  refine s_putI rfl hT7 ho0 rfl (fun w8 hT8 => ?_)
  refine s_aload rfl rfl ?_
  refine s_const rfl ?_
  refine s_putZ rfl hT8 ho0 rfl (Or.inl rfl) (fun w9 hT9 => ?_)
  refine s_aload rfl rfl ?_
  refine s_callV [.ref o0] [] rfl rfl (Nat.le_of_ble_eq_true rfl) (ev_191 (d := d) (by omega) hT9 ho0) (fun _ w10 hT10 => ?_)
  refine s_const rfl ?_
  refine s_istoreF [(0, .ref o0), (1, .int 1)] rfl (subl_c rfl (subl_c rfl (subl_n))) ?_
  let lvL13 : Int32 → List (Nat × Value) := fun s43 => [(0, .ref o0), (1, .int s43)]
  refine s_loop lvL13 (subl_c rfl (subl_c rfl (subl_n))) hT10 (fun v1_12 w14 hT14 => ?_)
  show sp _ (PP _ _ _ (48, [(0, .ref o0), (1, .int v1_12)], [], w14))
  refine s_iload rfl rfl ?_
  refine sp_ite (fun h15 => ?_) (fun h15 => ?_)
  · refine s_if1 rfl (zc_eq1 h15) ?_
    refine s_aload rfl rfl ?_
    refine s_getF rfl hT14 ho0 rfl ?_
    refine s_const rfl ?_
    refine s_aload rfl rfl ?_
    refine s_getI rfl hT14 ho0 ?_
    refine s_iast rfl hT14 (of_10_6 ho0) (fun w16 hT16 => ?_)
    refine s_const rfl ?_
    refine s_istoreF [(0, .ref o0), (2, .int 0)] rfl (subl_c rfl (subl_c rfl (subl_n))) ?_
    let lvL18 : Int32 → List (Nat × Value) := fun s23 => [(0, .ref o0), (2, .int s23)]
    refine s_loop lvL18 (subl_c rfl (subl_c rfl (subl_n))) hT16 (fun v2_17 w19 hT19 => ?_)
    show sp _ (PP _ _ _ (146, [(0, .ref o0), (2, .int v2_17)], [], w19))
    refine s_iload rfl rfl ?_
    refine s_const rfl ?_
    refine s_aload rfl rfl ?_
    refine s_getI rfl hT19 ho0 ?_
    refine s_bin rfl rfl ?_
    refine sp_ite (fun h20 => ?_) (fun h20 => ?_)
    · refine s_ic0 rfl (zc_ge0 h20) ?_
      refine s_aload rfl rfl ?_
      refine s_getF rfl hT19 ho0 rfl ?_
      refine s_const rfl ?_
      refine s_iload rfl rfl ?_
      refine s_bin rfl rfl ?_
      refine s_aload rfl rfl ?_
      refine s_getF rfl hT19 ho0 rfl ?_
      refine s_iload rfl rfl ?_
      refine s_iald rfl hT19 (of_10_8 ho0) ?_
      refine s_iast rfl hT19 (of_10_6 ho0) (fun w21 hT21 => ?_)
      refine s_iincF (fun v2_22 => [(0, .ref o0), (2, .int v2_22)]) rfl rfl (fun _ => subl_c rfl (subl_c rfl (subl_n))) (fun v2_22 => ?_)
      refine s_goto rfl ?_
      exact s_back (lvL := lvL18) (s' := v2_22) (subl_c rfl (subl_c rfl (subl_n))) hT21 (fun _ _ h => h)
    · refine s_ic1 rfl (zc_ge1 h20) ?_
      refine s_aload rfl rfl ?_
      refine s_getI rfl hT19 ho0 ?_
      exact s_retI rfl rfl hT19 (fun _ _ h => h)
  · refine s_if0 rfl (zc_eq0 h15) ?_
    refine s_aload rfl rfl ?_
    refine s_getI rfl hT14 ho0 ?_
    refine s_jnP (fun (s42 : Unit) w => (101, [(0, .ref o0), (1, .int v1_12)], [], w)) (fun s42 w25 hT25 => ?_) (fun j24 hj24 => ?_)
    · show sp _ (PP _ _ _ (101, [(0, .ref o0), (1, .int v1_12)], [], w25))
      refine s_aload rfl rfl ?_
      refine s_getI rfl hT25 ho0 ?_
      refine sp_ite (fun h26 => ?_) (fun h26 => ?_)
      · refine s_if1 rfl (zc_eq1 h26) ?_
        refine s_aload rfl rfl ?_
        refine s_callZ [.ref o0] [] rfl rfl (Nat.le_of_ble_eq_true rfl) (ev_277 (d := d) (by omega) hT25 ho0) (fun r28 w27 hT27 => ?_)
        refine sp_ite (fun h29 => ?_) (fun h29 => ?_)
        · refine s_if1 rfl (zb_ne1 h29) ?_
          exact s_back (lvL := lvL13) (s' := v1_12) (subl_c rfl (subl_c rfl (subl_n))) hT27 (fun _ _ h => h)
        · refine s_if0 rfl (zb_ne0 h29) ?_
          refine s_const rfl ?_
          refine s_aload rfl rfl ?_
          refine s_getI rfl hT27 ho0 ?_
          refine s_bin rfl rfl ?_
          exact s_retI rfl rfl hT27 (fun _ _ h => h)
      · refine s_if0 rfl (zc_eq0 h26) ?_
        refine s_aload rfl rfl ?_
        refine s_callZ [.ref o0] [] rfl rfl (Nat.le_of_ble_eq_true rfl) (ev_276 (d := d) (by omega) hT25 ho0) (fun r31 w30 hT30 => ?_)
        refine sp_ite (fun h32 => ?_) (fun h32 => ?_)
        · refine s_if1 rfl (zb_ne1 h32) ?_
          exact s_back (lvL := lvL13) (s' := v1_12) (subl_c rfl (subl_c rfl (subl_n))) hT30 (fun _ _ h => h)
        · refine s_if0 rfl (zb_ne0 h32) ?_
          refine s_goto rfl ?_
          refine s_const rfl ?_
          refine s_aload rfl rfl ?_
          refine s_getI rfl hT30 ho0 ?_
          refine s_bin rfl rfl ?_
          exact s_retI rfl rfl hT30 (fun _ _ h => h)
    · refine sp_ite (fun h33 => ?_) (fun h33 => ?_)
      · refine s_if1 rfl (zc_eq1 h33) ?_
        exact s_fgt _ (subl_c rfl (subl_c rfl (subl_n))) (hj24 () w14 hT14)
      · refine s_if0 rfl (zc_eq0 h33) ?_
        refine s_aload rfl rfl ?_
        refine s_getI rfl hT14 ho0 ?_
        refine sp_ite (fun h34 => ?_) (fun h34 => ?_)
        · refine s_if0 rfl (zc_ne0 h34) ?_
          refine s_aload rfl rfl ?_
          refine s_callV [.ref o0] [] rfl rfl (Nat.le_of_ble_eq_true rfl) (ev_273 (d := d) (by omega) hT14 ho0) (fun _ w35 hT35 => ?_)
          refine s_aload rfl rfl ?_
          refine s_const rfl ?_
          refine s_callV [.ref o0, .int 12] [] rfl rfl (Nat.le_of_ble_eq_true rfl) (ev_275 (d := d) (by omega) hT35 ho0) (fun _ w37 hT37 => ?_)
          refine s_aload rfl rfl ?_
          refine s_getI rfl hT37 ho0 ?_
          refine sp_ite (fun h39 => ?_) (fun h39 => ?_)
          · refine s_if0 rfl (zc_le0 h39) ?_
            refine s_aload rfl rfl ?_
            refine s_const rfl ?_
            refine s_callZ [.ref o0, .int 1] [] rfl rfl (Nat.le_of_ble_eq_true rfl) (ev_197 (d := d) (by omega) hT37 ho0) (fun r41 w40 hT40 => ?_)
            refine s_pop rfl rfl ?_
            refine s_const rfl ?_
            refine s_aload rfl rfl ?_
            refine s_getI rfl hT40 ho0 ?_
            refine s_bin rfl rfl ?_
            exact s_retI rfl rfl hT40 (fun _ _ h => h)
          · refine s_if1 rfl (zc_le1 h39) ?_
            refine s_const rfl ?_
            refine s_istoreF [(0, .ref o0), (1, .int 0)] rfl (subl_c rfl (subl_c rfl (subl_n))) ?_
            refine s_goto rfl ?_
            exact s_back (lvL := lvL13) (s' := 0) (subl_c rfl (subl_c rfl (subl_n))) hT37 (fun _ _ h => h)
        · refine s_if1 rfl (zc_ne1 h34) ?_
          exact s_fgt _ (subl_c rfl (subl_c rfl (subl_n))) (hj24 () w14 hT14)
/-- RugReaderModel.hasTrod(II)Z -/
def sh_282 (o0 : Nat) (p1 : Int32) (p2 : Int32) (w : Wd) : Option (Bool × Wd) := itM (fun (v3_1 : Int32) (w3 : Wd) => gd (ib (177 + p2) 10265) (if v3_1 < wI w3 (o0 + 2) (ix (177 + p2)) then (gd (ib ((183 + (41 * p2)) + v3_1) 10265) (cl (sh_213 o0 (wI w3 (o0 + 2) (ix ((183 + (41 * p2)) + v3_1))) p1 w3) (fun r6 w5 => if 0 < r6 then (some (.inr (true), w5)) else (lt (v3_1 + 1 : Int32) (fun v3_8 => some (.inl v3_8, w5)))))) else (some (.inr (false), w3)))) FU 0 w
set_option maxRecDepth 20000 in
set_option maxHeartbeats 4000000 in
theorem ev_282 {d : Nat} (hd : 3 ≤ d) {o0 : Nat} {p1 : Int32} {p2 : Int32} {w : Wd} (hT : TY w) (ho0 : ist o0 10) : sp (sh_282 o0 p1 p2 w) (fun r w' => TY w' ∧ Ev d 282 [.ref o0, .int p1, .int p2] w (cvZ r) w') := by
  obtain ⟨d, rfl⟩ : ∃ d', d = d' + 1 := ⟨d - 1, by omega⟩
  refine ev_of (M := M282) zin_282 rfl (by decide) rfl (Nat.le_of_ble_eq_true rfl) (Or.inr ⟨o0, _, rfl, ho0⟩) hT ?_
  show sp _ (PP (Ev d) M282 (KR cvZ) (0, [(0, .ref o0), (1, .int p1), (2, .int p2)], [], w))
  unfold sh_282
  refine s_const rfl ?_
  refine s_istoreF [(0, .ref o0), (1, .int p1), (2, .int p2), (3, .int 0)] rfl (subl_c rfl (subl_c rfl (subl_c rfl (subl_c rfl (subl_n))))) ?_
  let lvL2 : Int32 → List (Nat × Value) := fun s9 => [(0, .ref o0), (1, .int p1), (2, .int p2), (3, .int s9)]
  refine s_loop lvL2 (subl_c rfl (subl_c rfl (subl_c rfl (subl_c rfl (subl_n))))) hT (fun v3_1 w3 hT3 => ?_)
  show sp _ (PP _ _ _ (2, [(0, .ref o0), (1, .int p1), (2, .int p2), (3, .int v3_1)], [], w3))
  refine s_iload rfl rfl ?_
  refine s_aload rfl rfl ?_
  refine s_getF rfl hT3 ho0 rfl ?_
  refine s_const rfl ?_
  refine s_iload rfl rfl ?_
  refine s_bin rfl rfl ?_
  refine s_iald rfl hT3 (of_10_6 ho0) ?_
  refine sp_ite (fun h4 => ?_) (fun h4 => ?_)
  · refine s_ic0 rfl (zc_ge0 h4) ?_
    refine s_aload rfl rfl ?_
    refine s_aload rfl rfl ?_
    refine s_getF rfl hT3 ho0 rfl ?_
    refine s_const rfl ?_
    refine s_const rfl ?_
    refine s_iload rfl rfl ?_
    refine s_bin rfl rfl ?_
    refine s_bin rfl rfl ?_
    refine s_iload rfl rfl ?_
    refine s_bin rfl rfl ?_
    refine s_iald rfl hT3 (of_10_6 ho0) ?_
    refine s_iload rfl rfl ?_
    refine s_callI [.ref o0, .int (wI w3 (o0 + 2) (ix ((183 + (41 * p2)) + v3_1))), .int p1] [] rfl rfl (Nat.le_of_ble_eq_true rfl) (ev_213 (d := d) (by omega) hT3 ho0) (fun r6 w5 hT5 => ?_)
    refine sp_ite (fun h7 => ?_) (fun h7 => ?_)
    · refine s_if0 rfl (zc_le0 h7) ?_
      refine s_const rfl ?_
      exact s_retZ (z := true) rfl rfl hT5 (fun _ _ h => h)
    · refine s_if1 rfl (zc_le1 h7) ?_
      refine s_iincF (fun v3_8 => [(0, .ref o0), (1, .int p1), (2, .int p2), (3, .int v3_8)]) rfl rfl (fun _ => subl_c rfl (subl_c rfl (subl_c rfl (subl_c rfl (subl_n))))) (fun v3_8 => ?_)
      refine s_goto rfl ?_
      exact s_back (lvL := lvL2) (s' := v3_8) (subl_c rfl (subl_c rfl (subl_c rfl (subl_c rfl (subl_n))))) hT5 (fun _ _ h => h)
  · refine s_ic1 rfl (zc_ge1 h4) ?_
    refine s_const rfl ?_
    exact s_retZ (z := false) rfl rfl hT3 (fun _ _ h => h)
/-- RugReaderModel.isLeaf(IIII)Z -/
def sh_281 (o0 : Nat) (p1 : Int32) (p2 : Int32) (p3 : Int32) (p4 : Int32) (w : Wd) : Option (Bool × Wd) := if p2 = 0 then (cl (sh_282 o0 p1 p4 w) (fun r3 w2 => some (r3, w2))) else (jn (fun (t5 : Int32) (w6 : Wd) => lt (if p3 = 60 then (if t5 < p4 then true else false) else (if p3 = 61 then (if t5 = p4 then true else false) else (if p4 < t5 then true else false)) : Bool) (fun z7 => some (z7, w6))) (fun j4 => if p2 = 6 then (j4 p1 w) else (cl (sh_210 o0 p1 (p2 - 1) w) (fun r16 w15 => j4 r16 w15))))
set_option maxRecDepth 20000 in
set_option maxHeartbeats 4000000 in
theorem ev_281 {d : Nat} (hd : 4 ≤ d) {o0 : Nat} {p1 : Int32} {p2 : Int32} {p3 : Int32} {p4 : Int32} {w : Wd} (hT : TY w) (ho0 : ist o0 10) : sp (sh_281 o0 p1 p2 p3 p4 w) (fun r w' => TY w' ∧ Ev d 281 [.ref o0, .int p1, .int p2, .int p3, .int p4] w (cvZ r) w') := by
  obtain ⟨d, rfl⟩ : ∃ d', d = d' + 1 := ⟨d - 1, by omega⟩
  refine ev_of (M := M281) zin_281 rfl (by decide) rfl (Nat.le_of_ble_eq_true rfl) (Or.inr ⟨o0, _, rfl, ho0⟩) hT ?_
  show sp _ (PP (Ev d) M281 (KR cvZ) (0, [(0, .ref o0), (1, .int p1), (2, .int p2), (3, .int p3), (4, .int p4)], [], w))
  unfold sh_281
  refine s_iload rfl rfl ?_
  refine sp_ite (fun h1 => ?_) (fun h1 => ?_)
  · refine s_if0 rfl (zc_ne0 h1) ?_
    refine s_aload rfl rfl ?_
    refine s_iload rfl rfl ?_
    refine s_iload rfl rfl ?_
    refine s_callZ [.ref o0, .int p1, .int p4] [] rfl rfl (Nat.le_of_ble_eq_true rfl) (ev_282 (d := d) (by omega) hT ho0) (fun r3 w2 hT2 => ?_)
    exact s_retZ (z := r3) rfl rfl hT2 (fun _ _ h => h)
  · refine s_if1 rfl (zc_ne1 h1) ?_
    refine s_iload rfl rfl ?_
    refine s_const rfl ?_
    refine s_jnP (fun (s17 : Int32) w => (30, [(3, .int p3), (4, .int p4)], [.int s17], w)) (fun t5 w6 hT6 => ?_) (fun j4 hj4 => ?_)
    · show sp _ (PP _ _ _ (30, [(3, .int p3), (4, .int p4)], [.int t5], w6))
      refine s_istoreF [(3, .int p3), (4, .int p4), (5, .int t5)] rfl (subl_c rfl (subl_c rfl (subl_c rfl (subl_n)))) ?_
      refine s_iload rfl rfl ?_
      refine s_const rfl ?_
      refine sp_lt (fun z7 hz7 => ?_)
      refine s_dia (86, [(3, .int p3), (4, .int p4), (5, .int t5)], [.int (bi z7)], w6) ?_ (fun hk8 => ?_)
      · exact s_retZ (z := z7) rfl rfl hT6 (fun _ _ h => h)
      · by_cases h9 : p3 = 60
        · refine s_ic0 rfl (zc_ne0 h9) ?_
          refine s_iload rfl rfl ?_
          refine s_iload rfl rfl ?_
          by_cases h10 : t5 < p4
          · refine s_ic0 rfl (zc_ge0 h10) ?_
            refine s_const rfl ?_
            refine s_goto rfl ?_
            refine s_cong ?_ hk8
            (rw [hz7, if_pos h9, if_pos h10]; rfl)
          · refine s_ic1 rfl (zc_ge1 h10) ?_
            refine s_const rfl ?_
            refine s_goto rfl ?_
            refine s_cong ?_ hk8
            (rw [hz7, if_pos h9, if_neg h10]; rfl)
        · refine s_ic1 rfl (zc_ne1 h9) ?_
          refine s_iload rfl rfl ?_
          refine s_const rfl ?_
          by_cases h11 : p3 = 61
          · refine s_ic0 rfl (zc_ne0 h11) ?_
            refine s_iload rfl rfl ?_
            refine s_iload rfl rfl ?_
            by_cases h12 : t5 = p4
            · refine s_ic0 rfl (zc_ne0 h12) ?_
              refine s_const rfl ?_
              refine s_goto rfl ?_
              refine s_cong ?_ hk8
              (rw [hz7, if_neg h9, if_pos h11, if_pos h12]; rfl)
            · refine s_ic1 rfl (zc_ne1 h12) ?_
              refine s_const rfl ?_
              refine s_goto rfl ?_
              refine s_cong ?_ hk8
              (rw [hz7, if_neg h9, if_pos h11, if_neg h12]; rfl)
          · refine s_ic1 rfl (zc_ne1 h11) ?_
            refine s_iload rfl rfl ?_
            refine s_iload rfl rfl ?_
            by_cases h13 : p4 < t5
            · refine s_ic0 rfl (zc_le0 h13) ?_
              refine s_const rfl ?_
              refine s_goto rfl ?_
              refine s_cong ?_ hk8
              (rw [hz7, if_neg h9, if_neg h11, if_pos h13]; rfl)
            · refine s_ic1 rfl (zc_le1 h13) ?_
              refine s_const rfl ?_
              refine s_cong ?_ hk8
              (rw [hz7, if_neg h9, if_neg h11, if_neg h13]; rfl)
    · refine sp_ite (fun h14 => ?_) (fun h14 => ?_)
      · refine s_ic0 rfl (zc_ne0 h14) ?_
        refine s_iload rfl rfl ?_
        refine s_goto rfl ?_
        exact s_fgt _ (subl_c rfl (subl_c rfl (subl_n))) (hj4 p1 w hT)
      · refine s_ic1 rfl (zc_ne1 h14) ?_
        refine s_aload rfl rfl ?_
        refine s_iload rfl rfl ?_
        refine s_iload rfl rfl ?_
        refine s_const rfl ?_
        refine s_bin rfl rfl ?_
        refine s_callI [.ref o0, .int p1, .int (p2 - 1)] [] rfl rfl (Nat.le_of_ble_eq_true rfl) (ev_210 (d := d) (by omega) hT ho0) (fun r16 w15 hT15 => ?_)
        exact s_fgt _ (subl_c rfl (subl_c rfl (subl_n))) (hj4 r16 w15 hT15)
/-- RugReaderModel.isSaid(I)Z -/
def sh_280 (o0 : Nat) (p1 : Int32) (w : Wd) : Option (Bool × Wd) := itM (fun (s42 : Int32 × Int32) (w4 : Wd) => match s42 with | (v2_1, v3_2) => gd (ib 10084 10265) (if v3_2 < wI w4 (o0 + 2) (ix 10084) then (lt (10085 + (3 * v3_2) : Int32) (fun v4_6 => gd (ib v4_6 10265) (if wI w4 (o0 + 2) (ix v4_6) = 10 then (gd (ib (v2_1 - 1) 45) (lt (if wI w4 (o0 + 21) (ix (v2_1 - 1)) = 0 then true else false : Bool) (fun z8 => gd (ib (v2_1 - 1) 45) (stI w4 (o0 + 21) (ix (v2_1 - 1)) (bi z8) (fun w9 => lt (v3_2 + 1 : Int32) (fun v3_10 => some (.inl (v2_1, v3_10), w9))))))) else (gd (ib v4_6 10265) (jn (fun (s40 : Unit) (w14 : Wd) => lt (v2_1 + (-1) : Int32) (fun v2_15 => gd (ib v4_6 10265) (if wI w14 (o0 + 2) (ix v4_6) = 11 then (gd (ib (v2_15 - 1) 45) (if wI w14 (o0 + 21) (ix (v2_15 - 1)) = 0 then (gd (ib (v2_15 - 1) 45) (stI w14 (o0 + 21) (ix (v2_15 - 1)) 0 (fun w18 => lt (v3_2 + 1 : Int32) (fun v3_19 => some (.inl (v2_15, v3_19), w18))))) else (gd (ib v2_15 45) (if wI w14 (o0 + 21) (ix v2_15) = 0 then (gd (ib (v2_15 - 1) 45) (stI w14 (o0 + 21) (ix (v2_15 - 1)) 0 (fun w21 => lt (v3_2 + 1 : Int32) (fun v3_22 => some (.inl (v2_15, v3_22), w21))))) else (gd (ib (v2_15 - 1) 45) (stI w14 (o0 + 21) (ix (v2_15 - 1)) 1 (fun w23 => lt (v3_2 + 1 : Int32) (fun v3_24 => some (.inl (v2_15, v3_24), w23))))))))) else (gd (ib (v2_15 - 1) 45) (if wI w14 (o0 + 21) (ix (v2_15 - 1)) = 0 then (gd (ib v2_15 45) (if wI w14 (o0 + 21) (ix v2_15) = 0 then (gd (ib (v2_15 - 1) 45) (stI w14 (o0 + 21) (ix (v2_15 - 1)) 0 (fun w27 => lt (v3_2 + 1 : Int32) (fun v3_28 => some (.inl (v2_15, v3_28), w27))))) else (gd (ib (v2_15 - 1) 45) (stI w14 (o0 + 21) (ix (v2_15 - 1)) 1 (fun w29 => lt (v3_2 + 1 : Int32) (fun v3_30 => some (.inl (v2_15, v3_30), w29))))))) else (gd (ib (v2_15 - 1) 45) (stI w14 (o0 + 21) (ix (v2_15 - 1)) 1 (fun w31 => lt (v3_2 + 1 : Int32) (fun v3_32 => some (.inl (v2_15, v3_32), w31)))))))))) (fun j13 => if wI w4 (o0 + 2) (ix v4_6) = 11 then (j13 () w4) else (gd (ib v4_6 10265) (if wI w4 (o0 + 2) (ix v4_6) = 12 then (j13 () w4) else (gd (ib v4_6 10265) (gd (ib (v4_6 + 1) 10265) (gd (ib (v4_6 + 2) 10265) (cl (sh_281 o0 p1 (wI w4 (o0 + 2) (ix v4_6)) (wI w4 (o0 + 2) (ix (v4_6 + 1))) (wI w4 (o0 + 2) (ix (v4_6 + 2))) w4) (fun r36 w35 => gd (ib v2_1 45) (stI w35 (o0 + 21) (ix v2_1) (bi r36) (fun w37 => lt (v2_1 + 1 : Int32) (fun v2_38 => lt (v3_2 + 1 : Int32) (fun v3_39 => some (.inl (v2_38, v3_39), w37)))))))))))))))))) else (gd (ib 0 45) (gd (decide (wI w4 (o0 + 21) (ix 0) = 0 ∨ wI w4 (o0 + 21) (ix 0) = 1)) (some (.inr (decide (wI w4 (o0 + 21) (ix 0) = 1)), w4)))))) FU (0, 0) w
set_option maxRecDepth 20000 in
set_option maxHeartbeats 4000000 in
theorem ev_280 {d : Nat} (hd : 5 ≤ d) {o0 : Nat} {p1 : Int32} {w : Wd} (hT : TY w) (ho0 : ist o0 10) : sp (sh_280 o0 p1 w) (fun r w' => TY w' ∧ Ev d 280 [.ref o0, .int p1] w (cvZ r) w') := by
  obtain ⟨d, rfl⟩ : ∃ d', d = d' + 1 := ⟨d - 1, by omega⟩
  refine ev_of (M := M280) zin_280 rfl (by decide) rfl (Nat.le_of_ble_eq_true rfl) (Or.inr ⟨o0, _, rfl, ho0⟩) hT ?_
  show sp _ (PP (Ev d) M280 (KR cvZ) (0, [(0, .ref o0), (1, .int p1)], [], w))
  unfold sh_280
  refine s_const rfl ?_
  refine s_istoreF [(0, .ref o0), (1, .int p1), (2, .int 0)] rfl (subl_c rfl (subl_c rfl (subl_c rfl (subl_n)))) ?_
  refine s_const rfl ?_
  refine s_istoreF [(0, .ref o0), (1, .int p1), (2, .int 0), (3, .int 0)] rfl (subl_c rfl (subl_c rfl (subl_c rfl (subl_c rfl (subl_n))))) ?_
  let lvL3 : Int32 × Int32 → List (Nat × Value) := fun s42 => [(0, .ref o0), (1, .int p1), (2, .int (s42.1)), (3, .int (s42.2))]
  refine s_loop lvL3 (subl_c rfl (subl_c rfl (subl_c rfl (subl_c rfl (subl_n))))) hT (fun s42 w4 hT4 => ?_)
  obtain ⟨v2_1, v3_2⟩ := s42
  show sp _ (PP _ _ _ (4, [(0, .ref o0), (1, .int p1), (2, .int v2_1), (3, .int v3_2)], [], w4))
  refine s_iload rfl rfl ?_
  refine s_aload rfl rfl ?_
  refine s_getF rfl hT4 ho0 rfl ?_
  refine s_const rfl ?_
  refine s_iald rfl hT4 (of_10_6 ho0) ?_
  refine sp_ite (fun h5 => ?_) (fun h5 => ?_)
  · refine s_ic0 rfl (zc_ge0 h5) ?_
    refine s_const rfl ?_
    refine s_const rfl ?_
    refine s_iload rfl rfl ?_
    refine s_bin rfl rfl ?_
    refine s_bin rfl rfl ?_
    refine s_nmI (fun v4_6 => ?_)
    refine s_istoreF [(0, .ref o0), (1, .int p1), (2, .int v2_1), (3, .int v3_2), (4, .int v4_6)] rfl (subl_c rfl (subl_c rfl (subl_c rfl (subl_c rfl (subl_c rfl (subl_n)))))) ?_
    refine s_aload rfl rfl ?_
    refine s_getF rfl hT4 ho0 rfl ?_
    refine s_iload rfl rfl ?_
    refine s_iald rfl hT4 (of_10_6 ho0) ?_
    refine s_const rfl ?_
    refine sp_ite (fun h7 => ?_) (fun h7 => ?_)
    · refine s_ic0 rfl (zc_ne0 h7) ?_
      refine s_aload rfl rfl ?_
      refine s_getF rfl hT4 ho0 rfl ?_
      refine s_iload rfl rfl ?_
      refine s_const rfl ?_
      refine s_bin rfl rfl ?_
      refine s_aload rfl rfl ?_
      refine s_getF rfl hT4 ho0 rfl ?_
      refine s_iload rfl rfl ?_
      refine s_const rfl ?_
      refine s_bin rfl rfl ?_
      refine s_bald rfl hT4 (of_10_51 ho0) (Or.inr rfl) ?_
      refine sp_lt (fun z8 hz8 => ?_)
      refine s_dia (60, [(0, .ref o0), (1, .int p1), (2, .int v2_1), (3, .int v3_2), (4, .int v4_6)], [.int (bi z8), .int (v2_1 - 1), .ref (o0 + 21)], w4) ?_ (fun hk11 => ?_)
      · refine s_zast rfl hT4 (of_10_51 ho0) (nar_bi _) (fun w9 hT9 => ?_)
        refine s_goto rfl ?_
        refine s_iincF (fun v3_10 => [(0, .ref o0), (1, .int p1), (2, .int v2_1), (3, .int v3_10)]) rfl rfl (fun _ => subl_c rfl (subl_c rfl (subl_c rfl (subl_c rfl (subl_n))))) (fun v3_10 => ?_)
        refine s_goto rfl ?_
        exact s_back (lvL := lvL3) (s' := (v2_1, v3_10)) (subl_c rfl (subl_c rfl (subl_c rfl (subl_c rfl (subl_n))))) hT9 (fun _ _ h => h)
      · by_cases h12 : wI w4 (o0 + 21) (ix (v2_1 - 1)) = 0
        · refine s_if0 rfl (zc_ne0 h12) ?_
          refine s_const rfl ?_
          refine s_goto rfl ?_
          refine s_cong ?_ hk11
          (rw [hz8, if_pos h12]; rfl)
        · refine s_if1 rfl (zc_ne1 h12) ?_
          refine s_const rfl ?_
          refine s_cong ?_ hk11
          (rw [hz8, if_neg h12]; rfl)
    · refine s_ic1 rfl (zc_ne1 h7) ?_
      refine s_aload rfl rfl ?_
      refine s_getF rfl hT4 ho0 rfl ?_
      refine s_iload rfl rfl ?_
      refine s_iald rfl hT4 (of_10_6 ho0) ?_
      refine s_const rfl ?_
      refine s_jnP (fun (s40 : Unit) w => (88, [(0, .ref o0), (1, .int p1), (2, .int v2_1), (3, .int v3_2), (4, .int v4_6)], [], w)) (fun s40 w14 hT14 => ?_) (fun j13 hj13 => ?_)
      · show sp _ (PP _ _ _ (88, [(0, .ref o0), (1, .int p1), (2, .int v2_1), (3, .int v3_2), (4, .int v4_6)], [], w14))
        refine s_iincF (fun v2_15 => [(0, .ref o0), (1, .int p1), (2, .int v2_15), (3, .int v3_2), (4, .int v4_6)]) rfl rfl (fun _ => subl_c rfl (subl_c rfl (subl_c rfl (subl_c rfl (subl_c rfl (subl_n)))))) (fun v2_15 => ?_)
        refine s_aload rfl rfl ?_
        refine s_getF rfl hT14 ho0 rfl ?_
        refine s_iload rfl rfl ?_
        refine s_const rfl ?_
        refine s_bin rfl rfl ?_
        refine s_aload rfl rfl ?_
        refine s_getF rfl hT14 ho0 rfl ?_
        refine s_iload rfl rfl ?_
        refine s_iald rfl hT14 (of_10_6 ho0) ?_
        refine s_const rfl ?_
        refine sp_ite (fun h16 => ?_) (fun h16 => ?_)
        · refine s_ic0 rfl (zc_ne0 h16) ?_
          refine s_aload rfl rfl ?_
          refine s_getF rfl hT14 ho0 rfl ?_
          refine s_iload rfl rfl ?_
          refine s_const rfl ?_
          refine s_bin rfl rfl ?_
          refine s_bald rfl hT14 (of_10_51 ho0) (Or.inr rfl) ?_
          refine sp_ite (fun h17 => ?_) (fun h17 => ?_)
          · refine s_if1 rfl (zc_eq1 h17) ?_
            refine s_const rfl ?_
            refine s_goto rfl ?_
            refine s_zast rfl hT14 (of_10_51 ho0) rfl (fun w18 hT18 => ?_)
            refine s_goto rfl ?_
            refine s_iincF (fun v3_19 => [(0, .ref o0), (1, .int p1), (2, .int v2_15), (3, .int v3_19)]) rfl rfl (fun _ => subl_c rfl (subl_c rfl (subl_c rfl (subl_c rfl (subl_n))))) (fun v3_19 => ?_)
            refine s_goto rfl ?_
            exact s_back (lvL := lvL3) (s' := (v2_15, v3_19)) (subl_c rfl (subl_c rfl (subl_c rfl (subl_c rfl (subl_n))))) hT18 (fun _ _ h => h)
          · refine s_if0 rfl (zc_eq0 h17) ?_
            refine s_aload rfl rfl ?_
            refine s_getF rfl hT14 ho0 rfl ?_
            refine s_iload rfl rfl ?_
            refine s_bald rfl hT14 (of_10_51 ho0) (Or.inr rfl) ?_
            refine sp_ite (fun h20 => ?_) (fun h20 => ?_)
            · refine s_if1 rfl (zc_eq1 h20) ?_
              refine s_const rfl ?_
              refine s_goto rfl ?_
              refine s_zast rfl hT14 (of_10_51 ho0) rfl (fun w21 hT21 => ?_)
              refine s_goto rfl ?_
              refine s_iincF (fun v3_22 => [(0, .ref o0), (1, .int p1), (2, .int v2_15), (3, .int v3_22)]) rfl rfl (fun _ => subl_c rfl (subl_c rfl (subl_c rfl (subl_c rfl (subl_n))))) (fun v3_22 => ?_)
              refine s_goto rfl ?_
              exact s_back (lvL := lvL3) (s' := (v2_15, v3_22)) (subl_c rfl (subl_c rfl (subl_c rfl (subl_c rfl (subl_n))))) hT21 (fun _ _ h => h)
            · refine s_if0 rfl (zc_eq0 h20) ?_
              refine s_const rfl ?_
              refine s_goto rfl ?_
              refine s_zast rfl hT14 (of_10_51 ho0) rfl (fun w23 hT23 => ?_)
              refine s_goto rfl ?_
              refine s_iincF (fun v3_24 => [(0, .ref o0), (1, .int p1), (2, .int v2_15), (3, .int v3_24)]) rfl rfl (fun _ => subl_c rfl (subl_c rfl (subl_c rfl (subl_c rfl (subl_n))))) (fun v3_24 => ?_)
              refine s_goto rfl ?_
              exact s_back (lvL := lvL3) (s' := (v2_15, v3_24)) (subl_c rfl (subl_c rfl (subl_c rfl (subl_c rfl (subl_n))))) hT23 (fun _ _ h => h)
        · refine s_ic1 rfl (zc_ne1 h16) ?_
          refine s_aload rfl rfl ?_
          refine s_getF rfl hT14 ho0 rfl ?_
          refine s_iload rfl rfl ?_
          refine s_const rfl ?_
          refine s_bin rfl rfl ?_
          refine s_bald rfl hT14 (of_10_51 ho0) (Or.inr rfl) ?_
          refine sp_ite (fun h25 => ?_) (fun h25 => ?_)
          · refine s_if0 rfl (zc_ne0 h25) ?_
            refine s_aload rfl rfl ?_
            refine s_getF rfl hT14 ho0 rfl ?_
            refine s_iload rfl rfl ?_
            refine s_bald rfl hT14 (of_10_51 ho0) (Or.inr rfl) ?_
            refine sp_ite (fun h26 => ?_) (fun h26 => ?_)
            · refine s_if1 rfl (zc_eq1 h26) ?_
              refine s_const rfl ?_
              refine s_zast rfl hT14 (of_10_51 ho0) rfl (fun w27 hT27 => ?_)
              refine s_goto rfl ?_
              refine s_iincF (fun v3_28 => [(0, .ref o0), (1, .int p1), (2, .int v2_15), (3, .int v3_28)]) rfl rfl (fun _ => subl_c rfl (subl_c rfl (subl_c rfl (subl_c rfl (subl_n))))) (fun v3_28 => ?_)
              refine s_goto rfl ?_
              exact s_back (lvL := lvL3) (s' := (v2_15, v3_28)) (subl_c rfl (subl_c rfl (subl_c rfl (subl_c rfl (subl_n))))) hT27 (fun _ _ h => h)
            · refine s_if0 rfl (zc_eq0 h26) ?_
              refine s_const rfl ?_
              refine s_goto rfl ?_
              refine s_zast rfl hT14 (of_10_51 ho0) rfl (fun w29 hT29 => ?_)
              refine s_goto rfl ?_
              refine s_iincF (fun v3_30 => [(0, .ref o0), (1, .int p1), (2, .int v2_15), (3, .int v3_30)]) rfl rfl (fun _ => subl_c rfl (subl_c rfl (subl_c rfl (subl_c rfl (subl_n))))) (fun v3_30 => ?_)
              refine s_goto rfl ?_
              exact s_back (lvL := lvL3) (s' := (v2_15, v3_30)) (subl_c rfl (subl_c rfl (subl_c rfl (subl_c rfl (subl_n))))) hT29 (fun _ _ h => h)
          · refine s_if1 rfl (zc_ne1 h25) ?_
            refine s_const rfl ?_
            refine s_goto rfl ?_
            refine s_zast rfl hT14 (of_10_51 ho0) rfl (fun w31 hT31 => ?_)
            refine s_goto rfl ?_
            refine s_iincF (fun v3_32 => [(0, .ref o0), (1, .int p1), (2, .int v2_15), (3, .int v3_32)]) rfl rfl (fun _ => subl_c rfl (subl_c rfl (subl_c rfl (subl_c rfl (subl_n))))) (fun v3_32 => ?_)
            refine s_goto rfl ?_
            exact s_back (lvL := lvL3) (s' := (v2_15, v3_32)) (subl_c rfl (subl_c rfl (subl_c rfl (subl_c rfl (subl_n))))) hT31 (fun _ _ h => h)
      · refine sp_ite (fun h33 => ?_) (fun h33 => ?_)
        · refine s_ic1 rfl (zc_eq1 h33) ?_
          exact s_fgt _ (subl_c rfl (subl_c rfl (subl_c rfl (subl_c rfl (subl_c rfl (subl_n)))))) (hj13 () w4 hT4)
        · refine s_ic0 rfl (zc_eq0 h33) ?_
          refine s_aload rfl rfl ?_
          refine s_getF rfl hT4 ho0 rfl ?_
          refine s_iload rfl rfl ?_
          refine s_iald rfl hT4 (of_10_6 ho0) ?_
          refine s_const rfl ?_
          refine sp_ite (fun h34 => ?_) (fun h34 => ?_)
          · refine s_ic0 rfl (zc_ne0 h34) ?_
            exact s_fgt _ (subl_c rfl (subl_c rfl (subl_c rfl (subl_c rfl (subl_c rfl (subl_n)))))) (hj13 () w4 hT4)
          · refine s_ic1 rfl (zc_ne1 h34) ?_
            refine s_aload rfl rfl ?_
            refine s_getF rfl hT4 ho0 rfl ?_
            refine s_iload rfl rfl ?_
            refine s_aload rfl rfl ?_
            refine s_iload rfl rfl ?_
            refine s_aload rfl rfl ?_
            refine s_getF rfl hT4 ho0 rfl ?_
            refine s_iload rfl rfl ?_
            refine s_iald rfl hT4 (of_10_6 ho0) ?_
            refine s_aload rfl rfl ?_
            refine s_getF rfl hT4 ho0 rfl ?_
            refine s_iload rfl rfl ?_
            refine s_const rfl ?_
            refine s_bin rfl rfl ?_
            refine s_iald rfl hT4 (of_10_6 ho0) ?_
            refine s_aload rfl rfl ?_
            refine s_getF rfl hT4 ho0 rfl ?_
            refine s_iload rfl rfl ?_
            refine s_const rfl ?_
            refine s_bin rfl rfl ?_
            refine s_iald rfl hT4 (of_10_6 ho0) ?_
            refine s_callZ [.ref o0, .int p1, .int (wI w4 (o0 + 2) (ix v4_6)), .int (wI w4 (o0 + 2) (ix (v4_6 + 1))), .int (wI w4 (o0 + 2) (ix (v4_6 + 2)))] [.int v2_1, .ref (o0 + 21)] rfl rfl (Nat.le_of_ble_eq_true rfl) (ev_281 (d := d) (by omega) hT4 ho0) (fun r36 w35 hT35 => ?_)
            refine s_zast rfl hT35 (of_10_51 ho0) (nar_bi _) (fun w37 hT37 => ?_)
            refine s_iincF (fun v2_38 => [(0, .ref o0), (1, .int p1), (2, .int v2_38), (3, .int v3_2)]) rfl rfl (fun _ => subl_c rfl (subl_c rfl (subl_c rfl (subl_c rfl (subl_n))))) (fun v2_38 => ?_)
            refine s_iincF (fun v3_39 => [(0, .ref o0), (1, .int p1), (2, .int v2_38), (3, .int v3_39)]) rfl rfl (fun _ => subl_c rfl (subl_c rfl (subl_c rfl (subl_c rfl (subl_n))))) (fun v3_39 => ?_)
            refine s_goto rfl ?_
            exact s_back (lvL := lvL3) (s' := (v2_38, v3_39)) (subl_c rfl (subl_c rfl (subl_c rfl (subl_c rfl (subl_n))))) hT37 (fun _ _ h => h)
  · refine s_ic1 rfl (zc_ge1 h5) ?_
    refine s_aload rfl rfl ?_
    refine s_getF rfl hT4 ho0 rfl ?_
    refine s_const rfl ?_
    refine s_bald rfl hT4 (of_10_51 ho0) (Or.inr rfl) ?_
    exact sp_gd (fun h41 => s_retZx rfl rfl hT4 (of_decide_eq_true h41) (fun _ _ h => h))
