/-! printed by program (wip/whole/gen/sh.py): the methods as programs over worlds, and that the small machine does what they say -/
/-- RugReader$Readings.mayFit()Z -/
def sh_112 (o0 : Nat) (w : Wd) : Option (Bool × Wd) := itM (fun (v1_1 : Int32) (w3 : Wd) => if v1_1 < wI w3 o0 1 then (if v1_1 < 8 then (gd (ib v1_1 56) (gd (ib v1_1 56) (if wI w3 (o0 + 6) (ix v1_1) ≤ wI w3 (o0 + 7) (ix v1_1) then (gd (ib v1_1 8) (if wI w3 (o0 + 3) (ix v1_1) = (-1) then (gd (ib v1_1 8) (if wI w3 (o0 + 2) (ix v1_1) = 255 then (lt (v1_1 + 1 : Int32) (fun v1_9 => some (.inl v1_9, w3))) else (some (.inr (false), w3)))) else (lt (v1_1 + 1 : Int32) (fun v1_10 => some (.inl v1_10, w3))))) else (some (.inr (false), w3))))) else (some (.inr (true), w3))) else (some (.inr (true), w3))) FU 0 w
set_option maxRecDepth 20000 in
set_option maxHeartbeats 4000000 in
theorem ev_112 {d : Nat} (hd : 1 ≤ d) {o0 : Nat} {w : Wd} (hT : TY w) (ho0 : ist o0 4) : sp (sh_112 o0 w) (fun r w' => TY w' ∧ Ev d 112 [.ref o0] w (cvZ r) w') := by
  obtain ⟨d, rfl⟩ : ∃ d', d = d' + 1 := ⟨d - 1, by omega⟩
  refine ev_of (M := M112) zin_112 rfl (by decide) rfl (Nat.le_of_ble_eq_true rfl) (Or.inr ⟨o0, _, rfl, ho0⟩) hT ?_
  show sp _ (PP (Ev d) M112 (KR cvZ) (0, [(0, .ref o0)], [], w))
  unfold sh_112
  refine s_const rfl ?_
  refine s_istoreF [(0, .ref o0), (1, .int 0)] rfl (subl_c rfl (subl_c rfl (subl_n))) ?_
  let lvL2 : Int32 → List (Nat × Value) := fun s11 => [(0, .ref o0), (1, .int s11)]
  refine s_loop lvL2 (subl_c rfl (subl_c rfl (subl_n))) hT (fun v1_1 w3 hT3 => ?_)
  show sp _ (PP _ _ _ (2, [(0, .ref o0), (1, .int v1_1)], [], w3))
  refine s_iload rfl rfl ?_
  refine s_aload rfl rfl ?_
  refine s_getI rfl hT3 ho0 ?_
  refine sp_ite (fun h4 => ?_) (fun h4 => ?_)
  · refine s_ic0 rfl (zc_ge0 h4) ?_
    refine s_iload rfl rfl ?_
    refine s_const rfl ?_
    refine sp_ite (fun h5 => ?_) (fun h5 => ?_)
    · refine s_ic0 rfl (zc_ge0 h5) ?_
      refine s_aload rfl rfl ?_
      refine s_getF rfl hT3 ho0 rfl ?_
      refine s_iload rfl rfl ?_
      refine s_iald rfl hT3 (of_4_7 ho0) ?_
      refine s_aload rfl rfl ?_
      refine s_getF rfl hT3 ho0 rfl ?_
      refine s_iload rfl rfl ?_
      refine s_iald rfl hT3 (of_4_8 ho0) ?_
      refine sp_ite (fun h6 => ?_) (fun h6 => ?_)
      · refine s_ic0 rfl (zc_gt0 h6) ?_
        refine s_aload rfl rfl ?_
        refine s_getF rfl hT3 ho0 rfl ?_
        refine s_iload rfl rfl ?_
        refine s_iald rfl hT3 (of_4_4 ho0) ?_
        refine s_const rfl ?_
        refine sp_ite (fun h7 => ?_) (fun h7 => ?_)
        · refine s_ic0 rfl (zc_ne0 h7) ?_
          refine s_aload rfl rfl ?_
          refine s_getF rfl hT3 ho0 rfl ?_
          refine s_iload rfl rfl ?_
          refine s_iald rfl hT3 (of_4_3 ho0) ?_
          refine s_const rfl ?_
          refine sp_ite (fun h8 => ?_) (fun h8 => ?_)
          · refine s_ic1 rfl (zc_eq1 h8) ?_
            refine s_iincF (fun v1_9 => [(0, .ref o0), (1, .int v1_9)]) rfl rfl (fun _ => subl_c rfl (subl_c rfl (subl_n))) (fun v1_9 => ?_)
            refine s_goto rfl ?_
            exact s_back (lvL := lvL2) (s' := v1_9) (subl_c rfl (subl_c rfl (subl_n))) hT3 (fun _ _ h => h)
          · refine s_ic0 rfl (zc_eq0 h8) ?_
            refine s_const rfl ?_
            exact s_retZ (z := false) rfl rfl hT3 (fun _ _ h => h)
        · refine s_ic1 rfl (zc_ne1 h7) ?_
          refine s_iincF (fun v1_10 => [(0, .ref o0), (1, .int v1_10)]) rfl rfl (fun _ => subl_c rfl (subl_c rfl (subl_n))) (fun v1_10 => ?_)
          refine s_goto rfl ?_
          exact s_back (lvL := lvL2) (s' := v1_10) (subl_c rfl (subl_c rfl (subl_n))) hT3 (fun _ _ h => h)
      · refine s_ic1 rfl (zc_gt1 h6) ?_
        refine s_const rfl ?_
        exact s_retZ (z := false) rfl rfl hT3 (fun _ _ h => h)
    · refine s_ic1 rfl (zc_ge1 h5) ?_
      refine s_const rfl ?_
      exact s_retZ (z := true) rfl rfl hT3 (fun _ _ h => h)
  · refine s_ic1 rfl (zc_ge1 h4) ?_
    refine s_const rfl ?_
    exact s_retZ (z := true) rfl rfl hT3 (fun _ _ h => h)
/-- java/lang/Integer.bitCount(I)I -/
def sh_114 (p0 : Int32) (w : Wd) : Option (Int32 × Wd) := lt (p0 - ((zush p0 1) &&& 1431655765) : Int32) (fun v0_1 => lt ((v0_1 &&& 858993459) + ((zush v0_1 2) &&& 858993459) : Int32) (fun v0_2 => lt ((v0_2 + (zush v0_2 4)) &&& 252645135 : Int32) (fun v0_3 => lt (v0_3 + (zush v0_3 8) : Int32) (fun v0_4 => lt (v0_4 + (zush v0_4 16) : Int32) (fun v0_5 => some (v0_5 &&& 63, w))))))
set_option maxRecDepth 20000 in
set_option maxHeartbeats 4000000 in
theorem ev_114 {d : Nat} (hd : 1 ≤ d) {p0 : Int32} {w : Wd} (hT : TY w)  : sp (sh_114 p0 w) (fun r w' => TY w' ∧ Ev d 114 [.int p0] w (cvI r) w') := by
  obtain ⟨d, rfl⟩ : ∃ d', d = d' + 1 := ⟨d - 1, by omega⟩
  refine ev_of (M := M114) zin_114 rfl (by decide) rfl (Nat.le_of_ble_eq_true rfl) (Or.inl rfl) hT ?_
  show sp _ (PP (Ev d) M114 (KR cvI) (0, [(0, .int p0)], [], w))
  unfold sh_114
  refine s_iload rfl rfl ?_
  refine s_iload rfl rfl ?_
  refine s_const rfl ?_
  refine s_bin rfl rfl ?_
  refine s_const rfl ?_
  refine s_bin rfl rfl ?_
  refine s_bin rfl rfl ?_
  refine s_nmI (fun v0_1 => ?_)
  refine s_istoreF [(0, .int v0_1)] rfl (subl_c rfl (subl_n)) ?_
  refine s_iload rfl rfl ?_
  refine s_const rfl ?_
  refine s_bin rfl rfl ?_
  refine s_iload rfl rfl ?_
  refine s_const rfl ?_
  refine s_bin rfl rfl ?_
  refine s_const rfl ?_
  refine s_bin rfl rfl ?_
  refine s_bin rfl rfl ?_
  refine s_nmI (fun v0_2 => ?_)
  refine s_istoreF [(0, .int v0_2)] rfl (subl_c rfl (subl_n)) ?_
  refine s_iload rfl rfl ?_
  refine s_iload rfl rfl ?_
  refine s_const rfl ?_
  refine s_bin rfl rfl ?_
  refine s_bin rfl rfl ?_
  refine s_const rfl ?_
  refine s_bin rfl rfl ?_
  refine s_nmI (fun v0_3 => ?_)
  refine s_istoreF [(0, .int v0_3)] rfl (subl_c rfl (subl_n)) ?_
  refine s_iload rfl rfl ?_
  refine s_iload rfl rfl ?_
  refine s_const rfl ?_
  refine s_bin rfl rfl ?_
  refine s_bin rfl rfl ?_
  refine s_nmI (fun v0_4 => ?_)
  refine s_istoreF [(0, .int v0_4)] rfl (subl_c rfl (subl_n)) ?_
  refine s_iload rfl rfl ?_
  refine s_iload rfl rfl ?_
  refine s_const rfl ?_
  refine s_bin rfl rfl ?_
  refine s_bin rfl rfl ?_
  refine s_nmI (fun v0_5 => ?_)
  refine s_istoreF [(0, .int v0_5)] rfl (subl_c rfl (subl_n)) ?_
  refine s_iload rfl rfl ?_
  refine s_const rfl ?_
  refine s_bin rfl rfl ?_
  exact s_retI rfl rfl hT (fun _ _ h => h)
/-- RugReader$Readings.record(LRugReader$House;I)V -/
def sh_115 (o0 : Nat) (o1 : Nat) (p2 : Int32) (w : Wd) : Option (Unit × Wd) := stI w o0 11 ((wI w o0 11) + 1) (fun w1 => jn (fun (s24 : Unit) (w3 : Wd) => itM (fun (v3_4 : Int32) (w6 : Wd) => if v3_4 < wI w6 o1 4 then (if v3_4 < 6 then (if wI w6 o0 11 = 1 then (gd (ib v3_4 6) (gd (ib v3_4 6) (stI w6 (o0 + 10) (ix v3_4) (wI w6 (o0 + 9) (ix v3_4)) (fun w10 => gd (ib v3_4 6) (gd (ib v3_4 6) (stI w10 (o0 + 11) (ix v3_4) (wI w10 (o0 + 9) (ix v3_4)) (fun w11 => lt (v3_4 + 1 : Int32) (fun v3_12 => some (.inl v3_12, w11))))))))) else (gd (ib v3_4 6) (gd (ib v3_4 6) (if wI w6 (o0 + 11) (ix v3_4) = wI w6 (o0 + 9) (ix v3_4) then (lt (v3_4 + 1 : Int32) (fun v3_14 => some (.inl v3_14, w6))) else (gd (ib v3_4 6) (stI w6 (o0 + 11) (ix v3_4) (-2) (fun w15 => lt (v3_4 + 1 : Int32) (fun v3_16 => some (.inl v3_16, w15))))))))) else (some (.inr (()), w6))) else (some (.inr (()), w6))) FU 0 w3) (fun j2 => jn (fun (s23 : Unit) (w19 : Wd) => stI w19 o0 0 p2 (fun w20 => j2 () w20)) (fun j18 => if wI w1 o0 11 = 1 then (j18 () w1) else (if p2 < wI w1 o0 0 then (j18 () w1) else (j2 () w1)))))
set_option maxRecDepth 20000 in
set_option maxHeartbeats 4000000 in
theorem ev_115 {d : Nat} (hd : 1 ≤ d) {o0 : Nat} {o1 : Nat} {p2 : Int32} {w : Wd} (hT : TY w) (ho0 : ist o0 4) (ho1 : ist o1 1) : sp (sh_115 o0 o1 p2 w) (fun r w' => TY w' ∧ Ev d 115 [.ref o0, .ref o1, .int p2] w (cvV r) w') := by
  obtain ⟨d, rfl⟩ : ∃ d', d = d' + 1 := ⟨d - 1, by omega⟩
  refine ev_of (M := M115) zin_115 rfl (by decide) rfl (Nat.le_of_ble_eq_true rfl) (Or.inr ⟨o0, _, rfl, ho0⟩) hT ?_
  show sp _ (PP (Ev d) M115 (KR cvV) (0, [(0, .ref o0), (1, .ref o1), (2, .int p2)], [], w))
  unfold sh_115
  refine s_aload rfl rfl ?_
  refine s_dup rfl rfl ?_
  refine s_getI rfl hT ho0 ?_
  refine s_const rfl ?_
  refine s_bin rfl rfl ?_
  refine s_putI rfl hT ho0 rfl (fun w1 hT1 => ?_)
  refine s_aload rfl rfl ?_
  refine s_getI rfl hT1 ho0 ?_
  refine s_const rfl ?_
  refine s_jnP (fun (s24 : Unit) w => (31, [(0, .ref o0), (1, .ref o1)], [], w)) (fun s24 w3 hT3 => ?_) (fun j2 hj2 => ?_)
  · show sp _ (PP _ _ _ (31, [(0, .ref o0), (1, .ref o1)], [], w3))
    refine s_const rfl ?_
    refine s_istoreF [(0, .ref o0), (1, .ref o1), (3, .int 0)] rfl (subl_c rfl (subl_c rfl (subl_c rfl (subl_n)))) ?_
    let lvL5 : Int32 → List (Nat × Value) := fun s17 => [(0, .ref o0), (1, .ref o1), (3, .int s17)]
    refine s_loop lvL5 (subl_c rfl (subl_c rfl (subl_c rfl (subl_n)))) hT3 (fun v3_4 w6 hT6 => ?_)
    show sp _ (PP _ _ _ (33, [(0, .ref o0), (1, .ref o1), (3, .int v3_4)], [], w6))
    refine s_iload rfl rfl ?_
    refine s_aload rfl rfl ?_
    refine s_getI rfl hT6 ho1 ?_
    refine sp_ite (fun h7 => ?_) (fun h7 => ?_)
    · refine s_ic0 rfl (zc_ge0 h7) ?_
      refine s_iload rfl rfl ?_
      refine s_const rfl ?_
      refine sp_ite (fun h8 => ?_) (fun h8 => ?_)
      · refine s_ic0 rfl (zc_ge0 h8) ?_
        refine s_aload rfl rfl ?_
        refine s_getI rfl hT6 ho0 ?_
        refine s_const rfl ?_
        refine sp_ite (fun h9 => ?_) (fun h9 => ?_)
        · refine s_ic0 rfl (zc_ne0 h9) ?_
          refine s_aload rfl rfl ?_
          refine s_getF rfl hT6 ho0 rfl ?_
          refine s_iload rfl rfl ?_
          refine s_aload rfl rfl ?_
          refine s_getF rfl hT6 ho0 rfl ?_
          refine s_iload rfl rfl ?_
          refine s_iald rfl hT6 (of_4_10 ho0) ?_
          refine s_iast rfl hT6 (of_4_14 ho0) (fun w10 hT10 => ?_)
          refine s_aload rfl rfl ?_
          refine s_getF rfl hT10 ho0 rfl ?_
          refine s_iload rfl rfl ?_
          refine s_aload rfl rfl ?_
          refine s_getF rfl hT10 ho0 rfl ?_
          refine s_iload rfl rfl ?_
          refine s_iald rfl hT10 (of_4_10 ho0) ?_
          refine s_iast rfl hT10 (of_4_15 ho0) (fun w11 hT11 => ?_)
          refine s_goto rfl ?_
          refine s_iincF (fun v3_12 => [(0, .ref o0), (1, .ref o1), (3, .int v3_12)]) rfl rfl (fun _ => subl_c rfl (subl_c rfl (subl_c rfl (subl_n)))) (fun v3_12 => ?_)
          refine s_goto rfl ?_
          exact s_back (lvL := lvL5) (s' := v3_12) (subl_c rfl (subl_c rfl (subl_c rfl (subl_n)))) hT11 (fun _ _ h => h)
        · refine s_ic1 rfl (zc_ne1 h9) ?_
          refine s_aload rfl rfl ?_
          refine s_getF rfl hT6 ho0 rfl ?_
          refine s_iload rfl rfl ?_
          refine s_iald rfl hT6 (of_4_15 ho0) ?_
          refine s_aload rfl rfl ?_
          refine s_getF rfl hT6 ho0 rfl ?_
          refine s_iload rfl rfl ?_
          refine s_iald rfl hT6 (of_4_10 ho0) ?_
          refine sp_ite (fun h13 => ?_) (fun h13 => ?_)
          · refine s_ic1 rfl (zc_eq1 h13) ?_
            refine s_iincF (fun v3_14 => [(0, .ref o0), (1, .ref o1), (3, .int v3_14)]) rfl rfl (fun _ => subl_c rfl (subl_c rfl (subl_c rfl (subl_n)))) (fun v3_14 => ?_)
            refine s_goto rfl ?_
            exact s_back (lvL := lvL5) (s' := v3_14) (subl_c rfl (subl_c rfl (subl_c rfl (subl_n)))) hT6 (fun _ _ h => h)
          · refine s_ic0 rfl (zc_eq0 h13) ?_
            refine s_aload rfl rfl ?_
            refine s_getF rfl hT6 ho0 rfl ?_
            refine s_iload rfl rfl ?_
            refine s_const rfl ?_
            refine s_iast rfl hT6 (of_4_15 ho0) (fun w15 hT15 => ?_)
            refine s_iincF (fun v3_16 => [(0, .ref o0), (1, .ref o1), (3, .int v3_16)]) rfl rfl (fun _ => subl_c rfl (subl_c rfl (subl_c rfl (subl_n)))) (fun v3_16 => ?_)
            refine s_goto rfl ?_
            exact s_back (lvL := lvL5) (s' := v3_16) (subl_c rfl (subl_c rfl (subl_c rfl (subl_n)))) hT15 (fun _ _ h => h)
      · refine s_ic1 rfl (zc_ge1 h8) ?_
        exact s_retV rfl rfl hT6 (fun _ _ h => h)
    · refine s_ic1 rfl (zc_ge1 h7) ?_
      exact s_retV rfl rfl hT6 (fun _ _ h => h)
  · refine s_jnP (fun (s23 : Unit) w => (26, [(0, .ref o0), (1, .ref o1), (2, .int p2)], [], w)) (fun s23 w19 hT19 => ?_) (fun j18 hj18 => ?_)
    · show sp _ (PP _ _ _ (26, [(0, .ref o0), (1, .ref o1), (2, .int p2)], [], w19))
      refine s_aload rfl rfl ?_
      refine s_iload rfl rfl ?_
      refine s_putI rfl hT19 ho0 rfl (fun w20 hT20 => ?_)
      exact s_fgt _ (subl_c rfl (subl_c rfl (subl_n))) (hj2 () w20 hT20)
    · refine sp_ite (fun h21 => ?_) (fun h21 => ?_)
      · refine s_ic1 rfl (zc_eq1 h21) ?_
        exact s_fgt _ (subl_c rfl (subl_c rfl (subl_c rfl (subl_n)))) (hj18 () w1 hT1)
      · refine s_ic0 rfl (zc_eq0 h21) ?_
        refine s_iload rfl rfl ?_
        refine s_aload rfl rfl ?_
        refine s_getI rfl hT1 ho0 ?_
        refine sp_ite (fun h22 => ?_) (fun h22 => ?_)
        · refine s_ic0 rfl (zc_ge0 h22) ?_
          exact s_fgt _ (subl_c rfl (subl_c rfl (subl_c rfl (subl_n)))) (hj18 () w1 hT1)
        · refine s_ic1 rfl (zc_ge1 h22) ?_
          exact s_fgt _ (subl_c rfl (subl_c rfl (subl_n))) (hj2 () w1 hT1)
/-- RugReader$Readings.mayWalk(LRugReader$House;II)Z -/
def sh_116 (o0 : Nat) (o1 : Nat) (p2 : Int32) (p3 : Int32) (w : Wd) : Option (Bool × Wd) := if 0 ≤ p2 then (if 6 ≤ p2 then (some (false, w)) else (cl (sh_89 o1 p3 w) (fun r4 w3 => cl (sh_82 o1 w3) (fun r6 w5 => lt (r4 * r6 : Int32) (fun v4_7 => itM (fun (v5_8 : Int32) (w10 : Wd) => if v5_8 < wI w10 o0 1 then (if v5_8 < 8 then (lt ((p2 * 8) + v5_8 : Int32) (fun v6_13 => lt (v6_13 + 8 : Int32) (fun v7_14 => gd (ib v6_13 56) (gd (ib v6_13 48) (gd (ib v7_14 56) (stI w10 (o0 + 6) (ix v7_14) ((wI w10 (o0 + 6) (ix v6_13)) - ((wI w10 (o0 + 4) (ix v6_13)) * v4_7)) (fun w15 => jn (fun (t17 : Int32) (w18 : Wd) => gd (ib v7_14 56) (stI w18 (o0 + 8) (ix v7_14) t17 (fun w19 => gd (ib v7_14 56) (if 0 ≤ wI w19 (o0 + 6) (ix v7_14) then (gd (ib v7_14 56) (gd (ib v7_14 56) (if wI w19 (o0 + 7) (ix v7_14) < wI w19 (o0 + 6) (ix v7_14) then (some (.inr (false), w19)) else (gd (ib v5_8 8) (if wI w19 (o0 + 3) (ix v5_8) = p2 then (gd (ib v5_8 8) (if wI w19 (o0 + 2) (ix v5_8) = 255 then (lt (v5_8 + 1 : Int32) (fun v5_24 => some (.inl v5_24, w19))) else (gd (ib v5_8 8) (gd (ib v7_14 56) (if wI w19 (o0 + 2) (ix v5_8) = wI w19 (o0 + 8) (ix v7_14) then (lt (v5_8 + 1 : Int32) (fun v5_26 => some (.inl v5_26, w19))) else (some (.inr (false), w19))))))) else (lt (v5_8 + 1 : Int32) (fun v5_27 => some (.inl v5_27, w19)))))))) else (some (.inr (false), w19)))))) (fun j16 => jn (fun (s34 : Unit) (w29 : Wd) => gd (ib v6_13 56) (j16 (wI w29 (o0 + 8) (ix v6_13)) w29)) (fun j28 => if p3 = (-1) then (j28 () w15) else (gd (ib v6_13 48) (if 0 < wI w15 (o0 + 4) (ix v6_13) then (cl (sh_73 o1 p3 w15) (fun r33 w32 => j16 r33 w32)) else (j28 () w15)))))))))))) else (some (.inr (true), w10))) else (some (.inr (true), w10))) FU 0 w5))))) else (some (false, w))
set_option maxRecDepth 20000 in
set_option maxHeartbeats 4000000 in
theorem ev_116 {d : Nat} (hd : 3 ≤ d) {o0 : Nat} {o1 : Nat} {p2 : Int32} {p3 : Int32} {w : Wd} (hT : TY w) (ho0 : ist o0 4) (ho1 : ist o1 1) : sp (sh_116 o0 o1 p2 p3 w) (fun r w' => TY w' ∧ Ev d 116 [.ref o0, .ref o1, .int p2, .int p3] w (cvZ r) w') := by
  obtain ⟨d, rfl⟩ : ∃ d', d = d' + 1 := ⟨d - 1, by omega⟩
  refine ev_of (M := M116) zin_116 rfl (by decide) rfl (Nat.le_of_ble_eq_true rfl) (Or.inr ⟨o0, _, rfl, ho0⟩) hT ?_
  show sp _ (PP (Ev d) M116 (KR cvZ) (0, [(0, .ref o0), (1, .ref o1), (2, .int p2), (3, .int p3)], [], w))
  unfold sh_116
  refine s_iload rfl rfl ?_
  refine sp_ite (fun h1 => ?_) (fun h1 => ?_)
  · refine s_if0 rfl (zc_lt0 h1) ?_
    refine s_iload rfl rfl ?_
    refine s_const rfl ?_
    refine sp_ite (fun h2 => ?_) (fun h2 => ?_)
    · refine s_ic0 rfl (zc_lt0 h2) ?_
      refine s_const rfl ?_
      exact s_retZ (z := false) rfl rfl hT (fun _ _ h => h)
    · refine s_ic1 rfl (zc_lt1 h2) ?_
      refine s_aload rfl rfl ?_
      refine s_iload rfl rfl ?_
      refine s_callI [.ref o1, .int p3] [] rfl rfl (Nat.le_of_ble_eq_true rfl) (ev_89 (d := d) (by omega) hT ho1) (fun r4 w3 hT3 => ?_)
      refine s_aload rfl rfl ?_
      refine s_callI [.ref o1] [.int r4] rfl rfl (Nat.le_of_ble_eq_true rfl) (ev_82 (d := d) (by omega) hT3 ho1) (fun r6 w5 hT5 => ?_)
      refine s_bin rfl rfl ?_
      refine s_nmI (fun v4_7 => ?_)
      refine s_istoreF [(0, .ref o0), (1, .ref o1), (2, .int p2), (3, .int p3), (4, .int v4_7)] rfl (subl_c rfl (subl_c rfl (subl_c rfl (subl_c rfl (subl_c rfl (subl_n)))))) ?_
      refine s_const rfl ?_
      refine s_istoreF [(0, .ref o0), (1, .ref o1), (2, .int p2), (3, .int p3), (4, .int v4_7), (5, .int 0)] rfl (subl_c rfl (subl_c rfl (subl_c rfl (subl_c rfl (subl_c rfl (subl_c rfl (subl_n))))))) ?_
      let lvL9 : Int32 → List (Nat × Value) := fun s36 => [(0, .ref o0), (1, .ref o1), (2, .int p2), (3, .int p3), (4, .int v4_7), (5, .int s36)]
      refine s_loop lvL9 (subl_c rfl (subl_c rfl (subl_c rfl (subl_c rfl (subl_c rfl (subl_c rfl (subl_n))))))) hT5 (fun v5_8 w10 hT10 => ?_)
      show sp _ (PP _ _ _ (27, [(0, .ref o0), (1, .ref o1), (2, .int p2), (3, .int p3), (4, .int v4_7), (5, .int v5_8)], [], w10))
      refine s_iload rfl rfl ?_
      refine s_aload rfl rfl ?_
      refine s_getI rfl hT10 ho0 ?_
      refine sp_ite (fun h11 => ?_) (fun h11 => ?_)
      · refine s_ic0 rfl (zc_ge0 h11) ?_
        refine s_iload rfl rfl ?_
        refine s_const rfl ?_
        refine sp_ite (fun h12 => ?_) (fun h12 => ?_)
        · refine s_ic0 rfl (zc_ge0 h12) ?_
          refine s_iload rfl rfl ?_
          refine s_const rfl ?_
          refine s_bin rfl rfl ?_
          refine s_iload rfl rfl ?_
          refine s_bin rfl rfl ?_
          refine s_nmI (fun v6_13 => ?_)
          refine s_istoreF [(0, .ref o0), (1, .ref o1), (2, .int p2), (3, .int p3), (4, .int v4_7), (5, .int v5_8), (6, .int v6_13)] rfl (subl_c rfl (subl_c rfl (subl_c rfl (subl_c rfl (subl_c rfl (subl_c rfl (subl_c rfl (subl_n)))))))) ?_
          refine s_iload rfl rfl ?_
          refine s_const rfl ?_
          refine s_bin rfl rfl ?_
          refine s_nmI (fun v7_14 => ?_)
          refine s_istoreF [(0, .ref o0), (1, .ref o1), (2, .int p2), (3, .int p3), (4, .int v4_7), (5, .int v5_8), (6, .int v6_13), (7, .int v7_14)] rfl (subl_c rfl (subl_c rfl (subl_c rfl (subl_c rfl (subl_c rfl (subl_c rfl (subl_c rfl (subl_c rfl (subl_n))))))))) ?_
          refine s_aload rfl rfl ?_
          refine s_getF rfl hT10 ho0 rfl ?_
          refine s_iload rfl rfl ?_
          refine s_aload rfl rfl ?_
          refine s_getF rfl hT10 ho0 rfl ?_
          refine s_iload rfl rfl ?_
          refine s_iald rfl hT10 (of_4_7 ho0) ?_
          refine s_aload rfl rfl ?_
          refine s_getF rfl hT10 ho0 rfl ?_
          refine s_iload rfl rfl ?_
          refine s_iald rfl hT10 (of_4_5 ho0) ?_
          refine s_iload rfl rfl ?_
          refine s_bin rfl rfl ?_
          refine s_bin rfl rfl ?_
          refine s_iast rfl hT10 (of_4_7 ho0) (fun w15 hT15 => ?_)
          refine s_aload rfl rfl ?_
          refine s_getF rfl hT15 ho0 rfl ?_
          refine s_iload rfl rfl ?_
          refine s_iload rfl rfl ?_
          refine s_const rfl ?_
          refine s_jnP (fun (s35 : Int32) w => (120, [(0, .ref o0), (1, .ref o1), (2, .int p2), (3, .int p3), (4, .int v4_7), (5, .int v5_8), (7, .int v7_14)], [.int s35, .int v7_14, .ref (o0 + 8)], w)) (fun t17 w18 hT18 => ?_) (fun j16 hj16 => ?_)
          · show sp _ (PP _ _ _ (120, [(0, .ref o0), (1, .ref o1), (2, .int p2), (3, .int p3), (4, .int v4_7), (5, .int v5_8), (7, .int v7_14)], [.int t17, .int v7_14, .ref (o0 + 8)], w18))
            refine s_iast rfl hT18 (of_4_9 ho0) (fun w19 hT19 => ?_)
            refine s_aload rfl rfl ?_
            refine s_getF rfl hT19 ho0 rfl ?_
            refine s_iload rfl rfl ?_
            refine s_iald rfl hT19 (of_4_7 ho0) ?_
            refine sp_ite (fun h20 => ?_) (fun h20 => ?_)
            · refine s_if0 rfl (zc_lt0 h20) ?_
              refine s_aload rfl rfl ?_
              refine s_getF rfl hT19 ho0 rfl ?_
              refine s_iload rfl rfl ?_
              refine s_iald rfl hT19 (of_4_7 ho0) ?_
              refine s_aload rfl rfl ?_
              refine s_getF rfl hT19 ho0 rfl ?_
              refine s_iload rfl rfl ?_
              refine s_iald rfl hT19 (of_4_8 ho0) ?_
              refine sp_ite (fun h21 => ?_) (fun h21 => ?_)
              · refine s_ic0 rfl (zc_le0 h21) ?_
                refine s_const rfl ?_
                exact s_retZ (z := false) rfl rfl hT19 (fun _ _ h => h)
              · refine s_ic1 rfl (zc_le1 h21) ?_
                refine s_aload rfl rfl ?_
                refine s_getF rfl hT19 ho0 rfl ?_
                refine s_iload rfl rfl ?_
                refine s_iald rfl hT19 (of_4_4 ho0) ?_
                refine s_iload rfl rfl ?_
                refine sp_ite (fun h22 => ?_) (fun h22 => ?_)
                · refine s_ic0 rfl (zc_ne0 h22) ?_
                  refine s_aload rfl rfl ?_
                  refine s_getF rfl hT19 ho0 rfl ?_
                  refine s_iload rfl rfl ?_
                  refine s_iald rfl hT19 (of_4_3 ho0) ?_
                  refine s_const rfl ?_
                  refine sp_ite (fun h23 => ?_) (fun h23 => ?_)
                  · refine s_ic1 rfl (zc_eq1 h23) ?_
                    refine s_iincF (fun v5_24 => [(0, .ref o0), (1, .ref o1), (2, .int p2), (3, .int p3), (4, .int v4_7), (5, .int v5_24)]) rfl rfl (fun _ => subl_c rfl (subl_c rfl (subl_c rfl (subl_c rfl (subl_c rfl (subl_c rfl (subl_n))))))) (fun v5_24 => ?_)
                    refine s_goto rfl ?_
                    exact s_back (lvL := lvL9) (s' := v5_24) (subl_c rfl (subl_c rfl (subl_c rfl (subl_c rfl (subl_c rfl (subl_c rfl (subl_n))))))) hT19 (fun _ _ h => h)
                  · refine s_ic0 rfl (zc_eq0 h23) ?_
                    refine s_aload rfl rfl ?_
                    refine s_getF rfl hT19 ho0 rfl ?_
                    refine s_iload rfl rfl ?_
                    refine s_iald rfl hT19 (of_4_3 ho0) ?_
                    refine s_aload rfl rfl ?_
                    refine s_getF rfl hT19 ho0 rfl ?_
                    refine s_iload rfl rfl ?_
                    refine s_iald rfl hT19 (of_4_9 ho0) ?_
                    refine sp_ite (fun h25 => ?_) (fun h25 => ?_)
                    · refine s_ic1 rfl (zc_eq1 h25) ?_
                      refine s_iincF (fun v5_26 => [(0, .ref o0), (1, .ref o1), (2, .int p2), (3, .int p3), (4, .int v4_7), (5, .int v5_26)]) rfl rfl (fun _ => subl_c rfl (subl_c rfl (subl_c rfl (subl_c rfl (subl_c rfl (subl_c rfl (subl_n))))))) (fun v5_26 => ?_)
                      refine s_goto rfl ?_
                      exact s_back (lvL := lvL9) (s' := v5_26) (subl_c rfl (subl_c rfl (subl_c rfl (subl_c rfl (subl_c rfl (subl_c rfl (subl_n))))))) hT19 (fun _ _ h => h)
                    · refine s_ic0 rfl (zc_eq0 h25) ?_
                      refine s_const rfl ?_
                      exact s_retZ (z := false) rfl rfl hT19 (fun _ _ h => h)
                · refine s_ic1 rfl (zc_ne1 h22) ?_
                  refine s_iincF (fun v5_27 => [(0, .ref o0), (1, .ref o1), (2, .int p2), (3, .int p3), (4, .int v4_7), (5, .int v5_27)]) rfl rfl (fun _ => subl_c rfl (subl_c rfl (subl_c rfl (subl_c rfl (subl_c rfl (subl_c rfl (subl_n))))))) (fun v5_27 => ?_)
                  refine s_goto rfl ?_
                  exact s_back (lvL := lvL9) (s' := v5_27) (subl_c rfl (subl_c rfl (subl_c rfl (subl_c rfl (subl_c rfl (subl_c rfl (subl_n))))))) hT19 (fun _ _ h => h)
            · refine s_if1 rfl (zc_lt1 h20) ?_
              refine s_const rfl ?_
              exact s_retZ (z := false) rfl rfl hT19 (fun _ _ h => h)
          · refine s_jnP (fun (s34 : Unit) w => (113, [(0, .ref o0), (1, .ref o1), (2, .int p2), (3, .int p3), (4, .int v4_7), (5, .int v5_8), (6, .int v6_13), (7, .int v7_14)], [.int v7_14, .ref (o0 + 8)], w)) (fun s34 w29 hT29 => ?_) (fun j28 hj28 => ?_)
            · show sp _ (PP _ _ _ (113, [(0, .ref o0), (1, .ref o1), (2, .int p2), (3, .int p3), (4, .int v4_7), (5, .int v5_8), (6, .int v6_13), (7, .int v7_14)], [.int v7_14, .ref (o0 + 8)], w29))
              refine s_aload rfl rfl ?_
              refine s_getF rfl hT29 ho0 rfl ?_
              refine s_iload rfl rfl ?_
              refine s_iald rfl hT29 (of_4_9 ho0) ?_
              exact s_fgt _ (subl_c rfl (subl_c rfl (subl_c rfl (subl_c rfl (subl_c rfl (subl_c rfl (subl_c rfl (subl_n)))))))) (hj16 (wI w29 (o0 + 8) (ix v6_13)) w29 hT29)
            · refine sp_ite (fun h30 => ?_) (fun h30 => ?_)
              · refine s_ic1 rfl (zc_eq1 h30) ?_
                exact s_fgt _ (subl_c rfl (subl_c rfl (subl_c rfl (subl_c rfl (subl_c rfl (subl_c rfl (subl_c rfl (subl_c rfl (subl_n))))))))) (hj28 () w15 hT15)
              · refine s_ic0 rfl (zc_eq0 h30) ?_
                refine s_aload rfl rfl ?_
                refine s_getF rfl hT15 ho0 rfl ?_
                refine s_iload rfl rfl ?_
                refine s_iald rfl hT15 (of_4_5 ho0) ?_
                refine sp_ite (fun h31 => ?_) (fun h31 => ?_)
                · refine s_if0 rfl (zc_le0 h31) ?_
                  refine s_aload rfl rfl ?_
                  refine s_iload rfl rfl ?_
                  refine s_callI [.ref o1, .int p3] [.int v7_14, .ref (o0 + 8)] rfl rfl (Nat.le_of_ble_eq_true rfl) (ev_73 (d := d) (by omega) hT15 ho1) (fun r33 w32 hT32 => ?_)
                  refine s_goto rfl ?_
                  exact s_fgt _ (subl_c rfl (subl_c rfl (subl_c rfl (subl_c rfl (subl_c rfl (subl_c rfl (subl_c rfl (subl_n)))))))) (hj16 r33 w32 hT32)
                · refine s_if1 rfl (zc_le1 h31) ?_
                  exact s_fgt _ (subl_c rfl (subl_c rfl (subl_c rfl (subl_c rfl (subl_c rfl (subl_c rfl (subl_c rfl (subl_c rfl (subl_n))))))))) (hj28 () w15 hT15)
        · refine s_ic1 rfl (zc_ge1 h12) ?_
          refine s_const rfl ?_
          exact s_retZ (z := true) rfl rfl hT10 (fun _ _ h => h)
      · refine s_ic1 rfl (zc_ge1 h11) ?_
        refine s_const rfl ?_
        exact s_retZ (z := true) rfl rfl hT10 (fun _ _ h => h)
  · refine s_if1 rfl (zc_lt1 h1) ?_
    refine s_const rfl ?_
    exact s_retZ (z := false) rfl rfl hT (fun _ _ h => h)
/-- RugReader$Readings.settle(LRugReader$House;II)V, by those that it calls -/
def sb_113 (f113 : Nat → Nat → Int32 → Int32 → Wd → Option (Unit × Wd)) (o0 : Nat) (o1 : Nat) (p2 : Int32) (p3 : Int32) (w : Wd) : Option (Unit × Wd) := if p2 < wI w o1 4 then (if 0 ≤ p2 then (if 6 ≤ p2 then (cl (sh_114 p3 w) (fun r5 w4 => cl (sh_115 o0 o1 r5 w4) (fun _ w6 => some ((), w6)))) else (gd (ib p2 6) (lt (if wI w (o0 + 5) (ix p2) = 0 then (wI w o1 3) else 0 : Int32) (fun z8 => itM (fun (v5_9 : Int32) (w11 : Wd) => if v5_9 < z8 then (gd (ib p2 6) (stI w11 (o0 + 9) (ix p2) v5_9 (fun w13 => cl (sh_116 o0 o1 p2 v5_9 w13) (fun r15 w14 => if r15 = true then (lt (if v5_9 = (-1) then p3 else p3 ||| (1 <<< (v5_9 &&& 31)) : Int32) (fun z17 => cl (f113 o0 o1 (p2 + 1) z17 w14) (fun _ w18 => lt (v5_9 + 1 : Int32) (fun v5_20 => some (.inl v5_20, w18))))) else (lt (v5_9 + 1 : Int32) (fun v5_23 => some (.inl v5_23, w14))))))) else (some (.inr (()), w11))) FU (-1) w)))) else (cl (sh_114 p3 w) (fun r28 w27 => cl (sh_115 o0 o1 r28 w27) (fun _ w29 => some ((), w29))))) else (cl (sh_114 p3 w) (fun r32 w31 => cl (sh_115 o0 o1 r32 w31) (fun _ w33 => some ((), w33))))
set_option maxRecDepth 20000 in
set_option maxHeartbeats 4000000 in
theorem eb_113 {d : Nat} (hd : 3 ≤ d) {f113 : Nat → Nat → Int32 → Int32 → Wd → Option (Unit × Wd)} (hf113 : ∀ (o0 : Nat) (o1 : Nat) (p2 : Int32) (p3 : Int32) (w : Wd), TY w → ist o0 4 → ist o1 1 → sp (f113 o0 o1 p2 p3 w) (fun r w' => TY w' ∧ Ev d 113 [.ref o0, .ref o1, .int p2, .int p3] w (cvV r) w')) {o0 : Nat} {o1 : Nat} {p2 : Int32} {p3 : Int32} {w : Wd} (hT : TY w) (ho0 : ist o0 4) (ho1 : ist o1 1) : sp (sb_113 f113 o0 o1 p2 p3 w) (fun r w' => TY w' ∧ Ev (d + 1) 113 [.ref o0, .ref o1, .int p2, .int p3] w (cvV r) w') := by
  refine ev_of (M := M113) zin_113 rfl (by decide) rfl (Nat.le_of_ble_eq_true rfl) (Or.inr ⟨o0, _, rfl, ho0⟩) hT ?_
  show sp _ (PP (Ev d) M113 (KR cvV) (0, [(0, .ref o0), (1, .ref o1), (2, .int p2), (3, .int p3)], [], w))
  unfold sb_113
  refine s_iload rfl rfl ?_
  refine s_aload rfl rfl ?_
  refine s_getI rfl hT ho1 ?_
  refine sp_ite (fun h1 => ?_) (fun h1 => ?_)
  · refine s_ic0 rfl (zc_ge0 h1) ?_
    refine s_iload rfl rfl ?_
    refine sp_ite (fun h2 => ?_) (fun h2 => ?_)
    · refine s_if0 rfl (zc_lt0 h2) ?_
      refine s_iload rfl rfl ?_
      refine s_const rfl ?_
      refine sp_ite (fun h3 => ?_) (fun h3 => ?_)
      · refine s_ic0 rfl (zc_lt0 h3) ?_
        refine s_aload rfl rfl ?_
        refine s_aload rfl rfl ?_
        refine s_iload rfl rfl ?_
        refine s_callI [.int p3] [.ref o1, .ref o0] rfl rfl (Nat.le_of_ble_eq_true rfl) (ev_114 (d := d) (by omega) hT ) (fun r5 w4 hT4 => ?_)
        refine s_callV [.ref o0, .ref o1, .int r5] [] rfl rfl (Nat.le_of_ble_eq_true rfl) (ev_115 (d := d) (by omega) hT4 ho0 ho1) (fun _ w6 hT6 => ?_)
        exact s_retV rfl rfl hT6 (fun _ _ h => h)
      · refine s_ic1 rfl (zc_lt1 h3) ?_
        refine s_aload rfl rfl ?_
        refine s_getF rfl hT ho0 rfl ?_
        refine s_iload rfl rfl ?_
        refine s_bald rfl hT (of_4_6 ho0) (Or.inr rfl) ?_
        refine sp_lt (fun z8 hz8 => ?_)
        refine s_dia (45, [(0, .ref o0), (1, .ref o1), (2, .int p2), (3, .int p3)], [.int z8], w) ?_ (fun hk25 => ?_)
        · refine s_istoreF [(0, .ref o0), (1, .ref o1), (2, .int p2), (3, .int p3), (4, .int z8)] rfl (subl_c rfl (subl_c rfl (subl_c rfl (subl_c rfl (subl_c rfl (subl_n)))))) ?_
          refine s_const rfl ?_
          refine s_istoreF [(0, .ref o0), (1, .ref o1), (2, .int p2), (3, .int p3), (4, .int z8), (5, .int (-1))] rfl (subl_c rfl (subl_c rfl (subl_c rfl (subl_c rfl (subl_c rfl (subl_c rfl (subl_n))))))) ?_
          let lvL10 : Int32 → List (Nat × Value) := fun s24 => [(0, .ref o0), (1, .ref o1), (2, .int p2), (3, .int p3), (4, .int z8), (5, .int s24)]
          refine s_loop lvL10 (subl_c rfl (subl_c rfl (subl_c rfl (subl_c rfl (subl_c rfl (subl_c rfl (subl_n))))))) hT (fun v5_9 w11 hT11 => ?_)
          show sp _ (PP _ _ _ (50, [(0, .ref o0), (1, .ref o1), (2, .int p2), (3, .int p3), (4, .int z8), (5, .int v5_9)], [], w11))
          refine s_iload rfl rfl ?_
          refine s_iload rfl rfl ?_
          refine sp_ite (fun h12 => ?_) (fun h12 => ?_)
          · refine s_ic0 rfl (zc_ge0 h12) ?_
            refine s_aload rfl rfl ?_
            refine s_getF rfl hT11 ho0 rfl ?_
            refine s_iload rfl rfl ?_
            refine s_iload rfl rfl ?_
            refine s_iast rfl hT11 (of_4_10 ho0) (fun w13 hT13 => ?_)
            refine s_aload rfl rfl ?_
            refine s_aload rfl rfl ?_
            refine s_iload rfl rfl ?_
            refine s_iload rfl rfl ?_
            refine s_callZ [.ref o0, .ref o1, .int p2, .int v5_9] [] rfl rfl (Nat.le_of_ble_eq_true rfl) (ev_116 (d := d) (by omega) hT13 ho0 ho1) (fun r15 w14 hT14 => ?_)
            refine sp_ite (fun h16 => ?_) (fun h16 => ?_)
            · refine s_if0 rfl (zb_eq0 h16) ?_
              refine s_aload rfl rfl ?_
              refine s_aload rfl rfl ?_
              refine s_iload rfl rfl ?_
              refine s_const rfl ?_
              refine s_bin rfl rfl ?_
              refine s_iload rfl rfl ?_
              refine s_const rfl ?_
              refine sp_lt (fun z17 hz17 => ?_)
              refine s_dia (97, [(0, .ref o0), (1, .ref o1), (2, .int p2), (3, .int p3), (4, .int z8), (5, .int v5_9)], [.int z17, .int (p2 + 1), .ref o1, .ref o0], w14) ?_ (fun hk21 => ?_)
              · refine s_callV [.ref o0, .ref o1, .int (p2 + 1), .int z17] [] rfl rfl (Nat.le_of_ble_eq_true rfl) (hf113 o0 o1 (p2 + 1) z17 w14 hT14 ho0 ho1) (fun _ w18 hT18 => ?_)
                refine s_iincF (fun v5_20 => [(0, .ref o0), (1, .ref o1), (2, .int p2), (3, .int p3), (4, .int z8), (5, .int v5_20)]) rfl rfl (fun _ => subl_c rfl (subl_c rfl (subl_c rfl (subl_c rfl (subl_c rfl (subl_c rfl (subl_n))))))) (fun v5_20 => ?_)
                refine s_goto rfl ?_
                exact s_back (lvL := lvL10) (s' := v5_20) (subl_c rfl (subl_c rfl (subl_c rfl (subl_c rfl (subl_c rfl (subl_c rfl (subl_n))))))) hT18 (fun _ _ h => h)
              · by_cases h22 : v5_9 = (-1)
                · refine s_ic0 rfl (zc_ne0 h22) ?_
                  refine s_iload rfl rfl ?_
                  refine s_goto rfl ?_
                  refine s_cong ?_ hk21
                  (rw [hz17, if_pos h22])
                · refine s_ic1 rfl (zc_ne1 h22) ?_
                  refine s_iload rfl rfl ?_
                  refine s_const rfl ?_
                  refine s_iload rfl rfl ?_
                  refine s_bin rfl rfl ?_
                  refine s_bin rfl rfl ?_
                  refine s_cong ?_ hk21
                  (rw [hz17, if_neg h22])
            · refine s_if1 rfl (zb_eq1 h16) ?_
              refine s_iincF (fun v5_23 => [(0, .ref o0), (1, .ref o1), (2, .int p2), (3, .int p3), (4, .int z8), (5, .int v5_23)]) rfl rfl (fun _ => subl_c rfl (subl_c rfl (subl_c rfl (subl_c rfl (subl_c rfl (subl_c rfl (subl_n))))))) (fun v5_23 => ?_)
              refine s_goto rfl ?_
              exact s_back (lvL := lvL10) (s' := v5_23) (subl_c rfl (subl_c rfl (subl_c rfl (subl_c rfl (subl_c rfl (subl_c rfl (subl_n))))))) hT14 (fun _ _ h => h)
          · refine s_ic1 rfl (zc_ge1 h12) ?_
            exact s_retV rfl rfl hT11 (fun _ _ h => h)
        · by_cases h26 : wI w (o0 + 5) (ix p2) = 0
          · refine s_if1 rfl (zc_eq1 h26) ?_
            refine s_aload rfl rfl ?_
            refine s_getI rfl hT ho1 ?_
            refine s_cong ?_ hk25
            (rw [hz8, if_pos h26])
          · refine s_if0 rfl (zc_eq0 h26) ?_
            refine s_const rfl ?_
            refine s_goto rfl ?_
            refine s_cong ?_ hk25
            (rw [hz8, if_neg h26])
    · refine s_if1 rfl (zc_lt1 h2) ?_
      refine s_aload rfl rfl ?_
      refine s_aload rfl rfl ?_
      refine s_iload rfl rfl ?_
      refine s_callI [.int p3] [.ref o1, .ref o0] rfl rfl (Nat.le_of_ble_eq_true rfl) (ev_114 (d := d) (by omega) hT ) (fun r28 w27 hT27 => ?_)
      refine s_callV [.ref o0, .ref o1, .int r28] [] rfl rfl (Nat.le_of_ble_eq_true rfl) (ev_115 (d := d) (by omega) hT27 ho0 ho1) (fun _ w29 hT29 => ?_)
      exact s_retV rfl rfl hT29 (fun _ _ h => h)
  · refine s_ic1 rfl (zc_ge1 h1) ?_
    refine s_aload rfl rfl ?_
    refine s_aload rfl rfl ?_
    refine s_iload rfl rfl ?_
    refine s_callI [.int p3] [.ref o1, .ref o0] rfl rfl (Nat.le_of_ble_eq_true rfl) (ev_114 (d := d) (by omega) hT ) (fun r32 w31 hT31 => ?_)
    refine s_callV [.ref o0, .ref o1, .int r32] [] rfl rfl (Nat.le_of_ble_eq_true rfl) (ev_115 (d := d) (by omega) hT31 ho0 ho1) (fun _ w33 hT33 => ?_)
    exact s_retV rfl rfl hT33 (fun _ _ h => h)
def sr_113 : Nat → Nat → Nat → Int32 → Int32 → Wd → Option (Unit × Wd)
  | 0 => fun _ _ _ _ _ => none
  | k + 1 => sb_113 (sr_113 k)
theorem er_113 : ∀ (k d : Nat), 3 + k ≤ d → ∀ (o0 : Nat) (o1 : Nat) (p2 : Int32) (p3 : Int32) (w : Wd), TY w → ist o0 4 → ist o1 1 → sp (sr_113 k o0 o1 p2 p3 w) (fun r w' => TY w' ∧ Ev d 113 [.ref o0, .ref o1, .int p2, .int p3] w (cvV r) w')
  | 0, d, hd => by intros; exact sp_none
  | k + 1, d, hd => by
    intro o0 o1 p2 p3 w hT ho0 ho1
    obtain ⟨d, rfl⟩ : ∃ d', d = d' + 1 := ⟨d - 1, by omega⟩
    exact eb_113 (by omega) (er_113 k d (by omega)) hT ho0 ho1
def sh_113 (o0 : Nat) (o1 : Nat) (p2 : Int32) (p3 : Int32) (w : Wd) : Option (Unit × Wd) := sr_113 10 o0 o1 p2 p3 w
theorem ev_113 {d : Nat} (hd : 13 ≤ d) {o0 : Nat} {o1 : Nat} {p2 : Int32} {p3 : Int32} {w : Wd} (hT : TY w) (ho0 : ist o0 4) (ho1 : ist o1 1) : sp (sh_113 o0 o1 p2 p3 w) (fun r w' => TY w' ∧ Ev d 113 [.ref o0, .ref o1, .int p2, .int p3] w (cvV r) w') := er_113 10 d (by omega) o0 o1 p2 p3 w hT ho0 ho1
/-- RugReader$Readings.addFreeWays(LRugReader$House;)V -/
def sh_117 (o0 : Nat) (o1 : Nat) (w : Wd) : Option (Unit × Wd) := itM (fun (v2_1 : Int32) (w3 : Wd) => if v2_1 < wI w3 o1 4 then (if v2_1 < 6 then (gd (ib v2_1 6) (if wI w3 (o0 + 5) (ix v2_1) = 0 then (lt (v2_1 + 1 : Int32) (fun v2_7 => some (.inl v2_7, w3))) else (if 0 < wI w3 o1 3 then (stI w3 o0 11 ((wI w3 o0 11) * ((wI w3 o1 3) + 1)) (fun w9 => gd (ib v2_1 6) (stI w9 (o0 + 11) (ix v2_1) (-2) (fun w10 => lt (v2_1 + 1 : Int32) (fun v2_11 => some (.inl v2_11, w10)))))) else (lt (v2_1 + 1 : Int32) (fun v2_12 => some (.inl v2_12, w3)))))) else (some (.inr (()), w3))) else (some (.inr (()), w3))) FU 0 w
set_option maxRecDepth 20000 in
set_option maxHeartbeats 4000000 in
theorem ev_117 {d : Nat} (hd : 1 ≤ d) {o0 : Nat} {o1 : Nat} {w : Wd} (hT : TY w) (ho0 : ist o0 4) (ho1 : ist o1 1) : sp (sh_117 o0 o1 w) (fun r w' => TY w' ∧ Ev d 117 [.ref o0, .ref o1] w (cvV r) w') := by
  obtain ⟨d, rfl⟩ : ∃ d', d = d' + 1 := ⟨d - 1, by omega⟩
  refine ev_of (M := M117) zin_117 rfl (by decide) rfl (Nat.le_of_ble_eq_true rfl) (Or.inr ⟨o0, _, rfl, ho0⟩) hT ?_
  show sp _ (PP (Ev d) M117 (KR cvV) (0, [(0, .ref o0), (1, .ref o1)], [], w))
  unfold sh_117
  refine s_const rfl ?_
  refine s_istoreF [(0, .ref o0), (1, .ref o1), (2, .int 0)] rfl (subl_c rfl (subl_c rfl (subl_c rfl (subl_n)))) ?_
  let lvL2 : Int32 → List (Nat × Value) := fun s13 => [(0, .ref o0), (1, .ref o1), (2, .int s13)]
  refine s_loop lvL2 (subl_c rfl (subl_c rfl (subl_c rfl (subl_n)))) hT (fun v2_1 w3 hT3 => ?_)
  show sp _ (PP _ _ _ (2, [(0, .ref o0), (1, .ref o1), (2, .int v2_1)], [], w3))
  refine s_iload rfl rfl ?_
  refine s_aload rfl rfl ?_
  refine s_getI rfl hT3 ho1 ?_
  refine sp_ite (fun h4 => ?_) (fun h4 => ?_)
  · refine s_ic0 rfl (zc_ge0 h4) ?_
    refine s_iload rfl rfl ?_
    refine s_const rfl ?_
    refine sp_ite (fun h5 => ?_) (fun h5 => ?_)
    · refine s_ic0 rfl (zc_ge0 h5) ?_
      refine s_aload rfl rfl ?_
      refine s_getF rfl hT3 ho0 rfl ?_
      refine s_iload rfl rfl ?_
      refine s_bald rfl hT3 (of_4_6 ho0) (Or.inr rfl) ?_
      refine sp_ite (fun h6 => ?_) (fun h6 => ?_)
      · refine s_if1 rfl (zc_eq1 h6) ?_
        refine s_iincF (fun v2_7 => [(0, .ref o0), (1, .ref o1), (2, .int v2_7)]) rfl rfl (fun _ => subl_c rfl (subl_c rfl (subl_c rfl (subl_n)))) (fun v2_7 => ?_)
        refine s_goto rfl ?_
        exact s_back (lvL := lvL2) (s' := v2_7) (subl_c rfl (subl_c rfl (subl_c rfl (subl_n)))) hT3 (fun _ _ h => h)
      · refine s_if0 rfl (zc_eq0 h6) ?_
        refine s_aload rfl rfl ?_
        refine s_getI rfl hT3 ho1 ?_
        refine sp_ite (fun h8 => ?_) (fun h8 => ?_)
        · refine s_if0 rfl (zc_le0 h8) ?_
          refine s_aload rfl rfl ?_
          refine s_dup rfl rfl ?_
          refine s_getI rfl hT3 ho0 ?_
          refine s_aload rfl rfl ?_
          refine s_getI rfl hT3 ho1 ?_
          refine s_const rfl ?_
          refine s_bin rfl rfl ?_
          refine s_bin rfl rfl ?_
          refine s_putI rfl hT3 ho0 rfl (fun w9 hT9 => ?_)
          refine s_aload rfl rfl ?_
          refine s_getF rfl hT9 ho0 rfl ?_
          refine s_iload rfl rfl ?_
          refine s_const rfl ?_
          refine s_iast rfl hT9 (of_4_15 ho0) (fun w10 hT10 => ?_)
          refine s_iincF (fun v2_11 => [(0, .ref o0), (1, .ref o1), (2, .int v2_11)]) rfl rfl (fun _ => subl_c rfl (subl_c rfl (subl_c rfl (subl_n)))) (fun v2_11 => ?_)
          refine s_goto rfl ?_
          exact s_back (lvL := lvL2) (s' := v2_11) (subl_c rfl (subl_c rfl (subl_c rfl (subl_n)))) hT10 (fun _ _ h => h)
        · refine s_if1 rfl (zc_le1 h8) ?_
          refine s_iincF (fun v2_12 => [(0, .ref o0), (1, .ref o1), (2, .int v2_12)]) rfl rfl (fun _ => subl_c rfl (subl_c rfl (subl_c rfl (subl_n)))) (fun v2_12 => ?_)
          refine s_goto rfl ?_
          exact s_back (lvL := lvL2) (s' := v2_12) (subl_c rfl (subl_c rfl (subl_c rfl (subl_n)))) hT3 (fun _ _ h => h)
    · refine s_ic1 rfl (zc_ge1 h5) ?_
      exact s_retV rfl rfl hT3 (fun _ _ h => h)
  · refine s_ic1 rfl (zc_ge1 h4) ?_
    exact s_retV rfl rfl hT3 (fun _ _ h => h)
/-- RugReader$Readings.find(LRugReader$Tape;LRugReader$House;)I -/
def sh_107 (o0 : Nat) (o1 : Nat) (o2 : Nat) (w : Wd) : Option (Int32 × Wd) := cl (sh_108 o0 o1 o2 w) (fun r2 w1 => if r2 = true then (cl (sh_109 o0 o2 w1) (fun _ w4 => stI w4 o0 11 0 (fun w6 => cl (sh_112 o0 w6) (fun r8 w7 => jn (fun (s19 : Unit) (w10 : Wd) => if 0 < wI w10 o0 11 then (stI w10 o0 13 1 (fun w12 => stI w12 o0 12 (wI w12 o2 4) (fun w13 => cl (sh_117 o0 o2 w13) (fun _ w14 => some (wI w14 o0 11, w14))))) else (some (wI w10 o0 11, w10))) (fun j9 => if r8 = true then (cl (sh_113 o0 o2 0 0 w7) (fun _ w17 => j9 () w17)) else (j9 () w7)))))) else (some ((-1), w1)))
set_option maxRecDepth 20000 in
set_option maxHeartbeats 4000000 in
theorem ev_107 {d : Nat} (hd : 14 ≤ d) {o0 : Nat} {o1 : Nat} {o2 : Nat} {w : Wd} (hT : TY w) (ho0 : ist o0 4) (ho1 : ist o1 7) (ho2 : ist o2 1) : sp (sh_107 o0 o1 o2 w) (fun r w' => TY w' ∧ Ev d 107 [.ref o0, .ref o1, .ref o2] w (cvI r) w') := by
  obtain ⟨d, rfl⟩ : ∃ d', d = d' + 1 := ⟨d - 1, by omega⟩
  refine ev_of (M := M107) zin_107 rfl (by decide) rfl (Nat.le_of_ble_eq_true rfl) (Or.inr ⟨o0, _, rfl, ho0⟩) hT ?_
  show sp _ (PP (Ev d) M107 (KR cvI) (0, [(0, .ref o0), (1, .ref o1), (2, .ref o2)], [], w))
  unfold sh_107
  refine s_aload rfl rfl ?_
  refine s_aload rfl rfl ?_
  refine s_aload rfl rfl ?_
  refine s_callZ [.ref o0, .ref o1, .ref o2] [] rfl rfl (Nat.le_of_ble_eq_true rfl) (ev_108 (d := d) (by omega) hT ho0 ho1 ho2) (fun r2 w1 hT1 => ?_)
  refine sp_ite (fun h3 => ?_) (fun h3 => ?_)
  · refine s_if1 rfl (zb_ne1 h3) ?_
    refine s_aload rfl rfl ?_
    refine s_aload rfl rfl ?_
    refine s_callV [.ref o0, .ref o2] [] rfl rfl (Nat.le_of_ble_eq_true rfl) (ev_109 (d := d) (by omega) hT1 ho0 ho2) (fun _ w4 hT4 => ?_)
    refine s_aload rfl rfl ?_
    refine s_const rfl ?_
    refine s_putI rfl hT4 ho0 rfl (fun w6 hT6 => ?_)
    refine s_aload rfl rfl ?_
    refine s_callZ [.ref o0] [] rfl rfl (Nat.le_of_ble_eq_true rfl) (ev_112 (d := d) (by omega) hT6 ho0) (fun r8 w7 hT7 => ?_)
    refine s_jnP (fun (s19 : Unit) w => (35, [(0, .ref o0), (2, .ref o2)], [], w)) (fun s19 w10 hT10 => ?_) (fun j9 hj9 => ?_)
    · show sp _ (PP _ _ _ (35, [(0, .ref o0), (2, .ref o2)], [], w10))
      refine s_aload rfl rfl ?_
      refine s_getI rfl hT10 ho0 ?_
      refine sp_ite (fun h11 => ?_) (fun h11 => ?_)
      · refine s_if0 rfl (zc_le0 h11) ?_
        refine s_aload rfl rfl ?_
        refine s_const rfl ?_
        refine s_putZ rfl hT10 ho0 rfl (Or.inr rfl) (fun w12 hT12 => ?_)
        refine s_aload rfl rfl ?_
        refine s_aload rfl rfl ?_
        refine s_getI rfl hT12 ho2 ?_
        refine s_putI rfl hT12 ho0 rfl (fun w13 hT13 => ?_)
        refine s_aload rfl rfl ?_
        refine s_aload rfl rfl ?_
        refine s_callV [.ref o0, .ref o2] [] rfl rfl (Nat.le_of_ble_eq_true rfl) (ev_117 (d := d) (by omega) hT13 ho0 ho2) (fun _ w14 hT14 => ?_)
        refine s_aload rfl rfl ?_
        refine s_getI rfl hT14 ho0 ?_
        exact s_retI rfl rfl hT14 (fun _ _ h => h)
      · refine s_if1 rfl (zc_le1 h11) ?_
        refine s_aload rfl rfl ?_
        refine s_getI rfl hT10 ho0 ?_
        exact s_retI rfl rfl hT10 (fun _ _ h => h)
    · refine sp_ite (fun h16 => ?_) (fun h16 => ?_)
      · refine s_if0 rfl (zb_eq0 h16) ?_
        refine s_aload rfl rfl ?_
        refine s_aload rfl rfl ?_
        refine s_const rfl ?_
        refine s_const rfl ?_
        refine s_callV [.ref o0, .ref o2, .int 0, .int 0] [] rfl rfl (Nat.le_of_ble_eq_true rfl) (ev_113 (d := d) (by omega) hT7 ho0 ho2) (fun _ w17 hT17 => ?_)
        exact s_fgt _ (subl_c rfl (subl_c rfl (subl_n))) (hj9 () w17 hT17)
      · refine s_if1 rfl (zb_eq1 h16) ?_
        exact s_fgt _ (subl_c rfl (subl_c rfl (subl_n))) (hj9 () w7 hT7)
  · refine s_if0 rfl (zb_ne0 h3) ?_
    refine s_const rfl ?_
    exact s_retI rfl rfl hT1 (fun _ _ h => h)
/-- RugReader.readings()I -/
def sh_106 (o0 : Nat) (w : Wd) : Option (Int32 × Wd) := der (wR w o0 2) (fun a1 => cl (sh_107 (o0 + 48) (o0 + 1) a1 w) (fun r3 w2 => stI w2 (o0 + 1) 1 0 (fun w4 => some (r3, w4))))
set_option maxRecDepth 20000 in
set_option maxHeartbeats 4000000 in
theorem ev_106 {d : Nat} (hd : 15 ≤ d) {o0 : Nat} {w : Wd} (hT : TY w) (ho0 : ist o0 9) : sp (sh_106 o0 w) (fun r w' => TY w' ∧ Ev d 106 [.ref o0] w (cvI r) w') := by
  obtain ⟨d, rfl⟩ : ∃ d', d = d' + 1 := ⟨d - 1, by omega⟩
  refine ev_of (M := M106) zin_106 rfl (by decide) rfl (Nat.le_of_ble_eq_true rfl) (Or.inr ⟨o0, _, rfl, ho0⟩) hT ?_
  show sp _ (PP (Ev d) M106 (KR cvI) (0, [(0, .ref o0)], [], w))
  unfold sh_106
  refine s_aload rfl rfl ?_
  refine s_getF rfl hT ho0 rfl ?_
  refine s_aload rfl rfl ?_
  refine s_getF rfl hT ho0 rfl ?_
  refine s_aload rfl rfl ?_
  refine s_getD rfl hT ho0 (by decide) rfl (fun a1 ha1 => ?_)
  refine s_callI [.ref (o0 + 48), .ref (o0 + 1), .ref a1] [] rfl rfl (Nat.le_of_ble_eq_true rfl) (ev_107 (d := d) (by omega) hT (of_9_14 ho0) (of_9_0 ho0) ha1) (fun r3 w2 hT2 => ?_)
  refine s_istoreF [(0, .ref o0), (1, .int r3)] rfl (subl_c rfl (subl_c rfl (subl_n))) ?_
  refine s_aload rfl rfl ?_
  refine s_getF rfl hT2 ho0 rfl ?_
  refine s_const rfl ?_
  refine s_putI rfl hT2 (of_9_0 ho0) rfl (fun w4 hT4 => ?_)
  refine s_iload rfl rfl ?_
  exact s_retI rfl rfl hT4 (fun _ _ h => h)
/-- RugReader$Readings.walkerOf(II)I -/
def sh_119 (o0 : Nat) (p1 : Int32) (p2 : Int32) (w : Wd) : Option (Int32 × Wd) := if wI w o0 13 = 0 then (some ((-3), w)) else (if 0 ≤ p1 then (if p1 < wI w o0 12 then (if p1 < 6 then (if 0 ≤ p2 then (if 1 < p2 then (some ((-3), w)) else (if p2 = 0 then (gd (ib p1 6) (some (wI w (o0 + 10) (ix p1), w))) else (gd (ib p1 6) (some (wI w (o0 + 11) (ix p1), w))))) else (some ((-3), w))) else (some ((-3), w))) else (some ((-3), w))) else (some ((-3), w)))
set_option maxRecDepth 20000 in
set_option maxHeartbeats 4000000 in
theorem ev_119 {d : Nat} (hd : 1 ≤ d) {o0 : Nat} {p1 : Int32} {p2 : Int32} {w : Wd} (hT : TY w) (ho0 : ist o0 4) : sp (sh_119 o0 p1 p2 w) (fun r w' => TY w' ∧ Ev d 119 [.ref o0, .int p1, .int p2] w (cvI r) w') := by
  obtain ⟨d, rfl⟩ : ∃ d', d = d' + 1 := ⟨d - 1, by omega⟩
  refine ev_of (M := M119) zin_119 rfl (by decide) rfl (Nat.le_of_ble_eq_true rfl) (Or.inr ⟨o0, _, rfl, ho0⟩) hT ?_
  show sp _ (PP (Ev d) M119 (KR cvI) (0, [(0, .ref o0), (1, .int p1), (2, .int p2)], [], w))
  unfold sh_119
  refine s_aload rfl rfl ?_
  refine s_getI rfl hT ho0 ?_
  refine sp_ite (fun h1 => ?_) (fun h1 => ?_)
  · refine s_if1 rfl (zc_eq1 h1) ?_
    refine s_const rfl ?_
    exact s_retI rfl rfl hT (fun _ _ h => h)
  · refine s_if0 rfl (zc_eq0 h1) ?_
    refine s_iload rfl rfl ?_
    refine sp_ite (fun h2 => ?_) (fun h2 => ?_)
    · refine s_if0 rfl (zc_lt0 h2) ?_
      refine s_iload rfl rfl ?_
      refine s_aload rfl rfl ?_
      refine s_getI rfl hT ho0 ?_
      refine sp_ite (fun h3 => ?_) (fun h3 => ?_)
      · refine s_ic0 rfl (zc_ge0 h3) ?_
        refine s_iload rfl rfl ?_
        refine s_const rfl ?_
        refine sp_ite (fun h4 => ?_) (fun h4 => ?_)
        · refine s_ic0 rfl (zc_ge0 h4) ?_
          refine s_iload rfl rfl ?_
          refine sp_ite (fun h5 => ?_) (fun h5 => ?_)
          · refine s_if0 rfl (zc_lt0 h5) ?_
            refine s_iload rfl rfl ?_
            refine s_const rfl ?_
            refine sp_ite (fun h6 => ?_) (fun h6 => ?_)
            · refine s_ic0 rfl (zc_le0 h6) ?_
              refine s_const rfl ?_
              exact s_retI rfl rfl hT (fun _ _ h => h)
            · refine s_ic1 rfl (zc_le1 h6) ?_
              refine s_iload rfl rfl ?_
              refine sp_ite (fun h7 => ?_) (fun h7 => ?_)
              · refine s_if0 rfl (zc_ne0 h7) ?_
                refine s_aload rfl rfl ?_
                refine s_getF rfl hT ho0 rfl ?_
                refine s_iload rfl rfl ?_
                refine s_iald rfl hT (of_4_14 ho0) ?_
                refine s_goto rfl ?_
                exact s_retI rfl rfl hT (fun _ _ h => h)
              · refine s_if1 rfl (zc_ne1 h7) ?_
                refine s_aload rfl rfl ?_
                refine s_getF rfl hT ho0 rfl ?_
                refine s_iload rfl rfl ?_
                refine s_iald rfl hT (of_4_15 ho0) ?_
                exact s_retI rfl rfl hT (fun _ _ h => h)
          · refine s_if1 rfl (zc_lt1 h5) ?_
            refine s_const rfl ?_
            exact s_retI rfl rfl hT (fun _ _ h => h)
        · refine s_ic1 rfl (zc_ge1 h4) ?_
          refine s_const rfl ?_
          exact s_retI rfl rfl hT (fun _ _ h => h)
      · refine s_ic1 rfl (zc_ge1 h3) ?_
        refine s_const rfl ?_
        exact s_retI rfl rfl hT (fun _ _ h => h)
    · refine s_if1 rfl (zc_lt1 h2) ?_
      refine s_const rfl ?_
      exact s_retI rfl rfl hT (fun _ _ h => h)
/-- RugReader.read(II)I -/
def sh_118 (o0 : Nat) (p1 : Int32) (p2 : Int32) (w : Wd) : Option (Int32 × Wd) := cl (sh_119 (o0 + 48) p1 p2 w) (fun r2 w1 => some (r2, w1))
set_option maxRecDepth 20000 in
set_option maxHeartbeats 4000000 in
theorem ev_118 {d : Nat} (hd : 2 ≤ d) {o0 : Nat} {p1 : Int32} {p2 : Int32} {w : Wd} (hT : TY w) (ho0 : ist o0 9) : sp (sh_118 o0 p1 p2 w) (fun r w' => TY w' ∧ Ev d 118 [.ref o0, .int p1, .int p2] w (cvI r) w') := by
  obtain ⟨d, rfl⟩ : ∃ d', d = d' + 1 := ⟨d - 1, by omega⟩
  refine ev_of (M := M118) zin_118 rfl (by decide) rfl (Nat.le_of_ble_eq_true rfl) (Or.inr ⟨o0, _, rfl, ho0⟩) hT ?_
  show sp _ (PP (Ev d) M118 (KR cvI) (0, [(0, .ref o0), (1, .int p1), (2, .int p2)], [], w))
  unfold sh_118
  refine s_aload rfl rfl ?_
  refine s_getF rfl hT ho0 rfl ?_
  refine s_iload rfl rfl ?_
  refine s_iload rfl rfl ?_
  refine s_callI [.ref (o0 + 48), .int p1, .int p2] [] rfl rfl (Nat.le_of_ble_eq_true rfl) (ev_119 (d := d) (by omega) hT (of_9_14 ho0)) (fun r2 w1 hT1 => ?_)
  exact s_retI rfl rfl hT1 (fun _ _ h => h)
/-- RugReader.fewest()I -/
def sh_120 (o0 : Nat) (w : Wd) : Option (Int32 × Wd) := some (wI w (o0 + 48) 0, w)
set_option maxRecDepth 20000 in
set_option maxHeartbeats 4000000 in
theorem ev_120 {d : Nat} (hd : 1 ≤ d) {o0 : Nat} {w : Wd} (hT : TY w) (ho0 : ist o0 9) : sp (sh_120 o0 w) (fun r w' => TY w' ∧ Ev d 120 [.ref o0] w (cvI r) w') := by
  obtain ⟨d, rfl⟩ : ∃ d', d = d' + 1 := ⟨d - 1, by omega⟩
  refine ev_of (M := M120) zin_120 rfl (by decide) rfl (Nat.le_of_ble_eq_true rfl) (Or.inr ⟨o0, _, rfl, ho0⟩) hT ?_
  show sp _ (PP (Ev d) M120 (KR cvI) (0, [(0, .ref o0)], [], w))
  unfold sh_120
  refine s_aload rfl rfl ?_
  refine s_getF rfl hT ho0 rfl ?_
  refine s_getI rfl hT (of_9_14 ho0) ?_
  exact s_retI rfl rfl hT (fun _ _ h => h)
/-- RugReader$Crossing.isFree(LRugReader$House;I)Z -/
def sh_123 (o0 : Nat) (p1 : Int32) (w : Wd) : Option (Bool × Wd) := cl (sh_56 o0 p1 w) (fun r2 w1 => if r2 = true then (cl (sh_50 o0 p1 w1) (fun r5 w4 => if r5 = true then (some (false, w4)) else (some (true, w4)))) else (some (false, w1)))
set_option maxRecDepth 20000 in
set_option maxHeartbeats 4000000 in
theorem ev_123 {d : Nat} (hd : 2 ≤ d) {o0 : Nat} {p1 : Int32} {w : Wd} (hT : TY w) (ho0 : ist o0 1) : sp (sh_123 o0 p1 w) (fun r w' => TY w' ∧ Ev d 123 [.ref o0, .int p1] w (cvZ r) w') := by
  obtain ⟨d, rfl⟩ : ∃ d', d = d' + 1 := ⟨d - 1, by omega⟩
  refine ev_of (M := M123) zin_123 rfl (by decide) rfl (Nat.le_of_ble_eq_true rfl) (Or.inl rfl) hT ?_
  show sp _ (PP (Ev d) M123 (KR cvZ) (0, [(0, .ref o0), (1, .int p1)], [], w))
  unfold sh_123
  refine s_aload rfl rfl ?_
  refine s_iload rfl rfl ?_
  refine s_callZ [.ref o0, .int p1] [] rfl rfl (Nat.le_of_ble_eq_true rfl) (ev_56 (d := d) (by omega) hT ho0) (fun r2 w1 hT1 => ?_)
  refine sp_ite (fun h3 => ?_) (fun h3 => ?_)
  · refine s_if0 rfl (zb_eq0 h3) ?_
    refine s_aload rfl rfl ?_
    refine s_iload rfl rfl ?_
    refine s_callZ [.ref o0, .int p1] [] rfl rfl (Nat.le_of_ble_eq_true rfl) (ev_50 (d := d) (by omega) hT1 ho0) (fun r5 w4 hT4 => ?_)
    refine sp_ite (fun h6 => ?_) (fun h6 => ?_)
    · refine s_if1 rfl (zb_ne1 h6) ?_
      refine s_const rfl ?_
      exact s_retZ (z := false) rfl rfl hT4 (fun _ _ h => h)
    · refine s_if0 rfl (zb_ne0 h6) ?_
      refine s_const rfl ?_
      refine s_goto rfl ?_
      exact s_retZ (z := true) rfl rfl hT4 (fun _ _ h => h)
  · refine s_if1 rfl (zb_eq1 h3) ?_
    refine s_const rfl ?_
    exact s_retZ (z := false) rfl rfl hT1 (fun _ _ h => h)
/-- RugReader$Crossing.markOf(LRugReader$Rug;II)I -/
def sh_124 (o0 : Nat) (p1 : Int32) (p2 : Int32) (w : Wd) : Option (Int32 × Wd) := cl (sh_100 o0 p1 w) (fun r2 w1 => lt (if r2 = p2 then 0 else 1000 : Int32) (fun z3 => some (z3, w1)))
set_option maxRecDepth 20000 in
set_option maxHeartbeats 4000000 in
theorem ev_124 {d : Nat} (hd : 4 ≤ d) {o0 : Nat} {p1 : Int32} {p2 : Int32} {w : Wd} (hT : TY w) (ho0 : ist o0 5) : sp (sh_124 o0 p1 p2 w) (fun r w' => TY w' ∧ Ev d 124 [.ref o0, .int p1, .int p2] w (cvI r) w') := by
  obtain ⟨d, rfl⟩ : ∃ d', d = d' + 1 := ⟨d - 1, by omega⟩
  refine ev_of (M := M124) zin_124 rfl (by decide) rfl (Nat.le_of_ble_eq_true rfl) (Or.inl rfl) hT ?_
  show sp _ (PP (Ev d) M124 (KR cvI) (0, [(0, .ref o0), (1, .int p1), (2, .int p2)], [], w))
  unfold sh_124
  refine s_aload rfl rfl ?_
  refine s_iload rfl rfl ?_
  refine s_callI [.ref o0, .int p1] [] rfl rfl (Nat.le_of_ble_eq_true rfl) (ev_100 (d := d) (by omega) hT ho0) (fun r2 w1 hT1 => ?_)
  refine s_iload rfl rfl ?_
  refine sp_lt (fun z3 hz3 => ?_)
  refine s_dia (16, [(0, .ref o0), (1, .int p1), (2, .int p2)], [.int z3], w1) ?_ (fun hk4 => ?_)
  · exact s_retI rfl rfl hT1 (fun _ _ h => h)
  · by_cases h5 : r2 = p2
    · refine s_ic0 rfl (zc_ne0 h5) ?_
      refine s_const rfl ?_
      refine s_goto rfl ?_
      refine s_cong ?_ hk4
      (rw [hz3, if_pos h5])
    · refine s_ic1 rfl (zc_ne1 h5) ?_
      refine s_const rfl ?_
      refine s_cong ?_ hk4
      (rw [hz3, if_neg h5])
/-- RugReader$Crossing.nearest()I -/
def sh_125 (o0 : Nat) (w : Wd) : Option (Int32 × Wd) := itM (fun (s15 : Int32 × Int32) (w4 : Wd) => match s15 with | (v1_1, v2_2) => if v2_2 < 144 then (gd (ib v2_2 144) (if wI w4 (o0 + 2) (ix v2_2) = 0 then (gd (ib v2_2 144) (if wI w4 (o0 + 1) (ix v2_2) < 1000000 then (if v1_1 = (-1) then (lt (v2_2 + 1 : Int32) (fun v2_9 => some (.inl (v2_2, v2_9), w4))) else (gd (ib v2_2 144) (gd (ib v1_1 144) (if wI w4 (o0 + 1) (ix v2_2) < wI w4 (o0 + 1) (ix v1_1) then (lt (v2_2 + 1 : Int32) (fun v2_11 => some (.inl (v2_2, v2_11), w4))) else (lt (v2_2 + 1 : Int32) (fun v2_12 => some (.inl (v1_1, v2_12), w4))))))) else (lt (v2_2 + 1 : Int32) (fun v2_13 => some (.inl (v1_1, v2_13), w4))))) else (lt (v2_2 + 1 : Int32) (fun v2_14 => some (.inl (v1_1, v2_14), w4))))) else (some (.inr (v1_1), w4))) FU ((-1), 0) w
set_option maxRecDepth 20000 in
set_option maxHeartbeats 4000000 in
theorem ev_125 {d : Nat} (hd : 1 ≤ d) {o0 : Nat} {w : Wd} (hT : TY w) (ho0 : ist o0 0) : sp (sh_125 o0 w) (fun r w' => TY w' ∧ Ev d 125 [.ref o0] w (cvI r) w') := by
  obtain ⟨d, rfl⟩ : ∃ d', d = d' + 1 := ⟨d - 1, by omega⟩
  refine ev_of (M := M125) zin_125 rfl (by decide) rfl (Nat.le_of_ble_eq_true rfl) (Or.inr ⟨o0, _, rfl, ho0⟩) hT ?_
  show sp _ (PP (Ev d) M125 (KR cvI) (0, [(0, .ref o0)], [], w))
  unfold sh_125
  refine s_const rfl ?_
  refine s_istoreF [(0, .ref o0), (1, .int (-1))] rfl (subl_c rfl (subl_c rfl (subl_n))) ?_
  refine s_const rfl ?_
  refine s_istoreF [(0, .ref o0), (1, .int (-1)), (2, .int 0)] rfl (subl_c rfl (subl_c rfl (subl_c rfl (subl_n)))) ?_
  let lvL3 : Int32 × Int32 → List (Nat × Value) := fun s15 => [(0, .ref o0), (1, .int (s15.1)), (2, .int (s15.2))]
  refine s_loop lvL3 (subl_c rfl (subl_c rfl (subl_c rfl (subl_n)))) hT (fun s15 w4 hT4 => ?_)
  obtain ⟨v1_1, v2_2⟩ := s15
  show sp _ (PP _ _ _ (4, [(0, .ref o0), (1, .int v1_1), (2, .int v2_2)], [], w4))
  refine s_iload rfl rfl ?_
  refine s_const rfl ?_
  refine sp_ite (fun h5 => ?_) (fun h5 => ?_)
  · refine s_ic0 rfl (zc_ge0 h5) ?_
    refine s_aload rfl rfl ?_
    refine s_getF rfl hT4 ho0 rfl ?_
    refine s_iload rfl rfl ?_
    refine s_bald rfl hT4 (of_0_3 ho0) (Or.inr rfl) ?_
    refine sp_ite (fun h6 => ?_) (fun h6 => ?_)
    · refine s_if0 rfl (zc_ne0 h6) ?_
      refine s_aload rfl rfl ?_
      refine s_getF rfl hT4 ho0 rfl ?_
      refine s_iload rfl rfl ?_
      refine s_iald rfl hT4 (of_0_2 ho0) ?_
      refine s_const rfl ?_
      refine sp_ite (fun h7 => ?_) (fun h7 => ?_)
      · refine s_ic0 rfl (zc_ge0 h7) ?_
        refine s_iload rfl rfl ?_
        refine s_const rfl ?_
        refine sp_ite (fun h8 => ?_) (fun h8 => ?_)
        · refine s_ic1 rfl (zc_eq1 h8) ?_
          refine s_iload rfl rfl ?_
          refine s_istoreF [(0, .ref o0), (1, .int v2_2), (2, .int v2_2)] rfl (subl_c rfl (subl_c rfl (subl_c rfl (subl_n)))) ?_
          refine s_iincF (fun v2_9 => [(0, .ref o0), (1, .int v2_2), (2, .int v2_9)]) rfl rfl (fun _ => subl_c rfl (subl_c rfl (subl_c rfl (subl_n)))) (fun v2_9 => ?_)
          refine s_goto rfl ?_
          exact s_back (lvL := lvL3) (s' := (v2_2, v2_9)) (subl_c rfl (subl_c rfl (subl_c rfl (subl_n)))) hT4 (fun _ _ h => h)
        · refine s_ic0 rfl (zc_eq0 h8) ?_
          refine s_aload rfl rfl ?_
          refine s_getF rfl hT4 ho0 rfl ?_
          refine s_iload rfl rfl ?_
          refine s_iald rfl hT4 (of_0_2 ho0) ?_
          refine s_aload rfl rfl ?_
          refine s_getF rfl hT4 ho0 rfl ?_
          refine s_iload rfl rfl ?_
          refine s_iald rfl hT4 (of_0_2 ho0) ?_
          refine sp_ite (fun h10 => ?_) (fun h10 => ?_)
          · refine s_ic0 rfl (zc_ge0 h10) ?_
            refine s_iload rfl rfl ?_
            refine s_istoreF [(0, .ref o0), (1, .int v2_2), (2, .int v2_2)] rfl (subl_c rfl (subl_c rfl (subl_c rfl (subl_n)))) ?_
            refine s_iincF (fun v2_11 => [(0, .ref o0), (1, .int v2_2), (2, .int v2_11)]) rfl rfl (fun _ => subl_c rfl (subl_c rfl (subl_c rfl (subl_n)))) (fun v2_11 => ?_)
            refine s_goto rfl ?_
            exact s_back (lvL := lvL3) (s' := (v2_2, v2_11)) (subl_c rfl (subl_c rfl (subl_c rfl (subl_n)))) hT4 (fun _ _ h => h)
          · refine s_ic1 rfl (zc_ge1 h10) ?_
            refine s_iincF (fun v2_12 => [(0, .ref o0), (1, .int v1_1), (2, .int v2_12)]) rfl rfl (fun _ => subl_c rfl (subl_c rfl (subl_c rfl (subl_n)))) (fun v2_12 => ?_)
            refine s_goto rfl ?_
            exact s_back (lvL := lvL3) (s' := (v1_1, v2_12)) (subl_c rfl (subl_c rfl (subl_c rfl (subl_n)))) hT4 (fun _ _ h => h)
      · refine s_ic1 rfl (zc_ge1 h7) ?_
        refine s_iincF (fun v2_13 => [(0, .ref o0), (1, .int v1_1), (2, .int v2_13)]) rfl rfl (fun _ => subl_c rfl (subl_c rfl (subl_c rfl (subl_n)))) (fun v2_13 => ?_)
        refine s_goto rfl ?_
        exact s_back (lvL := lvL3) (s' := (v1_1, v2_13)) (subl_c rfl (subl_c rfl (subl_c rfl (subl_n)))) hT4 (fun _ _ h => h)
    · refine s_if1 rfl (zc_ne1 h6) ?_
      refine s_iincF (fun v2_14 => [(0, .ref o0), (1, .int v1_1), (2, .int v2_14)]) rfl rfl (fun _ => subl_c rfl (subl_c rfl (subl_c rfl (subl_n)))) (fun v2_14 => ?_)
      refine s_goto rfl ?_
      exact s_back (lvL := lvL3) (s' := (v1_1, v2_14)) (subl_c rfl (subl_c rfl (subl_c rfl (subl_n)))) hT4 (fun _ _ h => h)
  · refine s_ic1 rfl (zc_ge1 h5) ?_
    refine s_iload rfl rfl ?_
    exact s_retI rfl rfl hT4 (fun _ _ h => h)
/-- RugReader$Crossing.settleAt(LRugReader$House;LRugReader$Rug;II)V -/
def sh_126 (o0 : Nat) (o1 : Nat) (o2 : Nat) (p3 : Int32) (p4 : Int32) (w : Wd) : Option (Unit × Wd) := if 0 ≤ p3 then (if 144 ≤ p3 then (some ((), w)) else (gd (ib p3 144) (stI w (o0 + 2) (ix p3) 1 (fun w3 => itM (fun (v5_4 : Int32) (w6 : Wd) => if v5_4 < 4 then (cl (sh_55 o1 p3 v5_4 w6) (fun r9 w8 => if 0 ≤ r9 then (if r9 < 144 then (cl (sh_123 o1 r9 w8) (fun r13 w12 => if r13 = true then (gd (ib r9 144) (gd (ib p3 144) (cl (sh_124 o2 r9 p4 w12) (fun r16 w15 => cl (sh_19 (wI w12 (o0 + 1) (ix r9)) (((wI w12 (o0 + 1) (ix p3)) + 1) + r16) w15) (fun r18 w17 => gd (ib r9 144) (stI w17 (o0 + 1) (ix r9) r18 (fun w19 => lt (v5_4 + 1 : Int32) (fun v5_20 => some (.inl v5_20, w19))))))))) else (lt (v5_4 + 1 : Int32) (fun v5_21 => some (.inl v5_21, w12))))) else (lt (v5_4 + 1 : Int32) (fun v5_22 => some (.inl v5_22, w8)))) else (lt (v5_4 + 1 : Int32) (fun v5_23 => some (.inl v5_23, w8))))) else (some (.inr (()), w6))) FU 0 w3)))) else (some ((), w))
set_option maxRecDepth 20000 in
set_option maxHeartbeats 4000000 in
theorem ev_126 {d : Nat} (hd : 5 ≤ d) {o0 : Nat} {o1 : Nat} {o2 : Nat} {p3 : Int32} {p4 : Int32} {w : Wd} (hT : TY w) (ho0 : ist o0 0) (ho1 : ist o1 1) (ho2 : ist o2 5) : sp (sh_126 o0 o1 o2 p3 p4 w) (fun r w' => TY w' ∧ Ev d 126 [.ref o0, .ref o1, .ref o2, .int p3, .int p4] w (cvV r) w') := by
  obtain ⟨d, rfl⟩ : ∃ d', d = d' + 1 := ⟨d - 1, by omega⟩
  refine ev_of (M := M126) zin_126 rfl (by decide) rfl (Nat.le_of_ble_eq_true rfl) (Or.inr ⟨o0, _, rfl, ho0⟩) hT ?_
  show sp _ (PP (Ev d) M126 (KR cvV) (0, [(0, .ref o0), (1, .ref o1), (2, .ref o2), (3, .int p3), (4, .int p4)], [], w))
  unfold sh_126
  refine s_iload rfl rfl ?_
  refine sp_ite (fun h1 => ?_) (fun h1 => ?_)
  · refine s_if0 rfl (zc_lt0 h1) ?_
    refine s_iload rfl rfl ?_
    refine s_const rfl ?_
    refine sp_ite (fun h2 => ?_) (fun h2 => ?_)
    · refine s_ic0 rfl (zc_lt0 h2) ?_
      exact s_retV rfl rfl hT (fun _ _ h => h)
    · refine s_ic1 rfl (zc_lt1 h2) ?_
      refine s_aload rfl rfl ?_
      refine s_getF rfl hT ho0 rfl ?_
      refine s_iload rfl rfl ?_
      refine s_const rfl ?_
      refine s_zast rfl hT (of_0_3 ho0) rfl (fun w3 hT3 => ?_)
      refine s_const rfl ?_
      refine s_istoreF [(0, .ref o0), (1, .ref o1), (2, .ref o2), (3, .int p3), (4, .int p4), (5, .int 0)] rfl (subl_c rfl (subl_c rfl (subl_c rfl (subl_c rfl (subl_c rfl (subl_c rfl (subl_n))))))) ?_
      let lvL5 : Int32 → List (Nat × Value) := fun s24 => [(0, .ref o0), (1, .ref o1), (2, .ref o2), (3, .int p3), (4, .int p4), (5, .int s24)]
      refine s_loop lvL5 (subl_c rfl (subl_c rfl (subl_c rfl (subl_c rfl (subl_c rfl (subl_c rfl (subl_n))))))) hT3 (fun v5_4 w6 hT6 => ?_)
      show sp _ (PP _ _ _ (22, [(0, .ref o0), (1, .ref o1), (2, .ref o2), (3, .int p3), (4, .int p4), (5, .int v5_4)], [], w6))
      refine s_iload rfl rfl ?_
      refine s_const rfl ?_
      refine sp_ite (fun h7 => ?_) (fun h7 => ?_)
      · refine s_ic0 rfl (zc_ge0 h7) ?_
        refine s_aload rfl rfl ?_
        refine s_iload rfl rfl ?_
        refine s_iload rfl rfl ?_
        refine s_callI [.ref o1, .int p3, .int v5_4] [] rfl rfl (Nat.le_of_ble_eq_true rfl) (ev_55 (d := d) (by omega) hT6 ho1) (fun r9 w8 hT8 => ?_)
        refine s_istoreF [(0, .ref o0), (1, .ref o1), (2, .ref o2), (3, .int p3), (4, .int p4), (5, .int v5_4), (6, .int r9)] rfl (subl_c rfl (subl_c rfl (subl_c rfl (subl_c rfl (subl_c rfl (subl_c rfl (subl_c rfl (subl_n)))))))) ?_
        refine s_iload rfl rfl ?_
        refine sp_ite (fun h10 => ?_) (fun h10 => ?_)
        · refine s_if0 rfl (zc_lt0 h10) ?_
          refine s_iload rfl rfl ?_
          refine s_const rfl ?_
          refine sp_ite (fun h11 => ?_) (fun h11 => ?_)
          · refine s_ic0 rfl (zc_ge0 h11) ?_
            refine s_aload rfl rfl ?_
            refine s_iload rfl rfl ?_
            refine s_callZ [.ref o1, .int r9] [] rfl rfl (Nat.le_of_ble_eq_true rfl) (ev_123 (d := d) (by omega) hT8 ho1) (fun r13 w12 hT12 => ?_)
            refine sp_ite (fun h14 => ?_) (fun h14 => ?_)
            · refine s_if0 rfl (zb_eq0 h14) ?_
              refine s_aload rfl rfl ?_
              refine s_getF rfl hT12 ho0 rfl ?_
              refine s_iload rfl rfl ?_
              refine s_aload rfl rfl ?_
              refine s_getF rfl hT12 ho0 rfl ?_
              refine s_iload rfl rfl ?_
              refine s_iald rfl hT12 (of_0_2 ho0) ?_
              refine s_aload rfl rfl ?_
              refine s_getF rfl hT12 ho0 rfl ?_
              refine s_iload rfl rfl ?_
              refine s_iald rfl hT12 (of_0_2 ho0) ?_
              refine s_const rfl ?_
              refine s_bin rfl rfl ?_
              refine s_aload rfl rfl ?_
              refine s_iload rfl rfl ?_
              refine s_iload rfl rfl ?_
              refine s_callI [.ref o2, .int r9, .int p4] [.int ((wI w12 (o0 + 1) (ix p3)) + 1), .int (wI w12 (o0 + 1) (ix r9)), .int r9, .ref (o0 + 1)] rfl rfl (Nat.le_of_ble_eq_true rfl) (ev_124 (d := d) (by omega) hT12 ho2) (fun r16 w15 hT15 => ?_)
              refine s_bin rfl rfl ?_
              refine s_callI [.int (wI w12 (o0 + 1) (ix r9)), .int (((wI w12 (o0 + 1) (ix p3)) + 1) + r16)] [.int r9, .ref (o0 + 1)] rfl rfl (Nat.le_of_ble_eq_true rfl) (ev_19 (d := d) (by omega) hT15 ) (fun r18 w17 hT17 => ?_)
              refine s_iast rfl hT17 (of_0_2 ho0) (fun w19 hT19 => ?_)
              refine s_iincF (fun v5_20 => [(0, .ref o0), (1, .ref o1), (2, .ref o2), (3, .int p3), (4, .int p4), (5, .int v5_20)]) rfl rfl (fun _ => subl_c rfl (subl_c rfl (subl_c rfl (subl_c rfl (subl_c rfl (subl_c rfl (subl_n))))))) (fun v5_20 => ?_)
              refine s_goto rfl ?_
              exact s_back (lvL := lvL5) (s' := v5_20) (subl_c rfl (subl_c rfl (subl_c rfl (subl_c rfl (subl_c rfl (subl_c rfl (subl_n))))))) hT19 (fun _ _ h => h)
            · refine s_if1 rfl (zb_eq1 h14) ?_
              refine s_iincF (fun v5_21 => [(0, .ref o0), (1, .ref o1), (2, .ref o2), (3, .int p3), (4, .int p4), (5, .int v5_21)]) rfl rfl (fun _ => subl_c rfl (subl_c rfl (subl_c rfl (subl_c rfl (subl_c rfl (subl_c rfl (subl_n))))))) (fun v5_21 => ?_)
              refine s_goto rfl ?_
              exact s_back (lvL := lvL5) (s' := v5_21) (subl_c rfl (subl_c rfl (subl_c rfl (subl_c rfl (subl_c rfl (subl_c rfl (subl_n))))))) hT12 (fun _ _ h => h)
          · refine s_ic1 rfl (zc_ge1 h11) ?_
            refine s_iincF (fun v5_22 => [(0, .ref o0), (1, .ref o1), (2, .ref o2), (3, .int p3), (4, .int p4), (5, .int v5_22)]) rfl rfl (fun _ => subl_c rfl (subl_c rfl (subl_c rfl (subl_c rfl (subl_c rfl (subl_c rfl (subl_n))))))) (fun v5_22 => ?_)
            refine s_goto rfl ?_
            exact s_back (lvL := lvL5) (s' := v5_22) (subl_c rfl (subl_c rfl (subl_c rfl (subl_c rfl (subl_c rfl (subl_c rfl (subl_n))))))) hT8 (fun _ _ h => h)
        · refine s_if1 rfl (zc_lt1 h10) ?_
          refine s_iincF (fun v5_23 => [(0, .ref o0), (1, .ref o1), (2, .ref o2), (3, .int p3), (4, .int p4), (5, .int v5_23)]) rfl rfl (fun _ => subl_c rfl (subl_c rfl (subl_c rfl (subl_c rfl (subl_c rfl (subl_c rfl (subl_n))))))) (fun v5_23 => ?_)
          refine s_goto rfl ?_
          exact s_back (lvL := lvL5) (s' := v5_23) (subl_c rfl (subl_c rfl (subl_c rfl (subl_c rfl (subl_c rfl (subl_c rfl (subl_n))))))) hT8 (fun _ _ h => h)
      · refine s_ic1 rfl (zc_ge1 h7) ?_
        exact s_retV rfl rfl hT6 (fun _ _ h => h)
  · refine s_if1 rfl (zc_lt1 h1) ?_
    exact s_retV rfl rfl hT (fun _ _ h => h)
/-- RugReader$Crossing.find(LRugReader$House;LRugReader$Rug;III)Z -/
def sh_122 (o0 : Nat) (o1 : Nat) (o2 : Nat) (p3 : Int32) (p4 : Int32) (p5 : Int32) (w : Wd) : Option (Bool × Wd) := cl (sh_69 o1 p3 w) (fun r2 w1 => if r2 = true then (cl (sh_123 o1 p4 w1) (fun r5 w4 => if r5 = true then (cl (sh_123 o1 p5 w4) (fun r8 w7 => if r8 = true then (itM (fun (v6_10 : Int32) (w12 : Wd) => if v6_10 < 144 then (gd (ib v6_10 144) (stI w12 (o0 + 1) (ix v6_10) 1000000 (fun w14 => gd (ib v6_10 144) (stI w14 (o0 + 2) (ix v6_10) 0 (fun w15 => lt (v6_10 + 1 : Int32) (fun v6_16 => some (.inl v6_16, w15))))))) else (cl (sh_73 o1 p3 w12) (fun r18 w17 => jn (fun (s55 : Unit) (w20 : Wd) => itM (fun (v7_21 : Int32) (w23 : Wd) => jn (fun (s48 : Unit) (w25 : Wd) => jn (fun (t27 : Int32) (w28 : Wd) => stI w28 o0 0 (t27 / 1000) (fun w29 => stI w29 o0 1 (zrem t27 1000) (fun w30 => lt (if t27 < 1000000 then true else false : Bool) (fun z31 => some (.inr (.inr (z31)), w30))))) (fun j26 => jn (fun (s38 : Unit) (w35 : Wd) => j26 1000000 w35) (fun j34 => if 0 ≤ p5 then (if p5 < 144 then (gd (ib p5 144) (j26 (wI w25 (o0 + 1) (ix p5)) w25)) else (j34 () w25)) else (j34 () w25)))) (fun j24 => if v7_21 < 144 then (cl (sh_125 o0 w23) (fun r42 w41 => if r42 = (-1) then (j24 () w41) else (if r42 = p5 then (j24 () w41) else (cl (sh_126 o0 o1 o2 r42 r18 w41) (fun _ w45 => lt (v7_21 + 1 : Int32) (fun v7_47 => some (.inl v7_47, w45))))))) else (j24 () w23))) FU 0 w20) (fun j19 => if 0 ≤ p4 then (if p4 < 144 then (cl (sh_124 o2 p4 r18 w17) (fun r53 w52 => gd (ib p4 144) (stI w52 (o0 + 1) (ix p4) r53 (fun w54 => j19 () w54)))) else (j19 () w17)) else (j19 () w17))))) FU 0 w7) else (some (false, w7)))) else (some (false, w4)))) else (some (false, w1)))
set_option maxRecDepth 20000 in
set_option maxHeartbeats 4000000 in
theorem ev_122 {d : Nat} (hd : 6 ≤ d) {o0 : Nat} {o1 : Nat} {o2 : Nat} {p3 : Int32} {p4 : Int32} {p5 : Int32} {w : Wd} (hT : TY w) (ho0 : ist o0 0) (ho1 : ist o1 1) (ho2 : ist o2 5) : sp (sh_122 o0 o1 o2 p3 p4 p5 w) (fun r w' => TY w' ∧ Ev d 122 [.ref o0, .ref o1, .ref o2, .int p3, .int p4, .int p5] w (cvZ r) w') := by
  obtain ⟨d, rfl⟩ : ∃ d', d = d' + 1 := ⟨d - 1, by omega⟩
  refine ev_of (M := M122) zin_122 rfl (by decide) rfl (Nat.le_of_ble_eq_true rfl) (Or.inr ⟨o0, _, rfl, ho0⟩) hT ?_
  show sp _ (PP (Ev d) M122 (KR cvZ) (0, [(0, .ref o0), (1, .ref o1), (2, .ref o2), (3, .int p3), (4, .int p4), (5, .int p5)], [], w))
  unfold sh_122
  refine s_aload rfl rfl ?_
  refine s_iload rfl rfl ?_
  refine s_callZ [.ref o1, .int p3] [] rfl rfl (Nat.le_of_ble_eq_true rfl) (ev_69 (d := d) (by omega) hT ho1) (fun r2 w1 hT1 => ?_)
  refine sp_ite (fun h3 => ?_) (fun h3 => ?_)
  · refine s_if0 rfl (zb_eq0 h3) ?_
    refine s_aload rfl rfl ?_
    refine s_iload rfl rfl ?_
    refine s_callZ [.ref o1, .int p4] [] rfl rfl (Nat.le_of_ble_eq_true rfl) (ev_123 (d := d) (by omega) hT1 ho1) (fun r5 w4 hT4 => ?_)
    refine sp_ite (fun h6 => ?_) (fun h6 => ?_)
    · refine s_if0 rfl (zb_eq0 h6) ?_
      refine s_aload rfl rfl ?_
      refine s_iload rfl rfl ?_
      refine s_callZ [.ref o1, .int p5] [] rfl rfl (Nat.le_of_ble_eq_true rfl) (ev_123 (d := d) (by omega) hT4 ho1) (fun r8 w7 hT7 => ?_)
      refine sp_ite (fun h9 => ?_) (fun h9 => ?_)
      · refine s_if1 rfl (zb_ne1 h9) ?_
        refine s_const rfl ?_
        refine s_istoreF [(0, .ref o0), (1, .ref o1), (2, .ref o2), (3, .int p3), (4, .int p4), (5, .int p5), (6, .int 0)] rfl (subl_c rfl (subl_c rfl (subl_c rfl (subl_c rfl (subl_c rfl (subl_c rfl (subl_c rfl (subl_n)))))))) ?_
        let lvL11 : Int32 → List (Nat × Value) := fun s56 => [(0, .ref o0), (1, .ref o1), (2, .ref o2), (3, .int p3), (4, .int p4), (5, .int p5), (6, .int s56)]
        refine s_loop lvL11 (subl_c rfl (subl_c rfl (subl_c rfl (subl_c rfl (subl_c rfl (subl_c rfl (subl_c rfl (subl_n)))))))) hT7 (fun v6_10 w12 hT12 => ?_)
        show sp _ (PP _ _ _ (31, [(0, .ref o0), (1, .ref o1), (2, .ref o2), (3, .int p3), (4, .int p4), (5, .int p5), (6, .int v6_10)], [], w12))
        refine s_iload rfl rfl ?_
        refine s_const rfl ?_
        refine sp_ite (fun h13 => ?_) (fun h13 => ?_)
        · refine s_ic0 rfl (zc_ge0 h13) ?_
          refine s_aload rfl rfl ?_
          refine s_getF rfl hT12 ho0 rfl ?_
          refine s_iload rfl rfl ?_
          refine s_const rfl ?_
          refine s_iast rfl hT12 (of_0_2 ho0) (fun w14 hT14 => ?_)
          refine s_aload rfl rfl ?_
          refine s_getF rfl hT14 ho0 rfl ?_
          refine s_iload rfl rfl ?_
          refine s_const rfl ?_
          refine s_zast rfl hT14 (of_0_3 ho0) rfl (fun w15 hT15 => ?_)
          refine s_iincF (fun v6_16 => [(0, .ref o0), (1, .ref o1), (2, .ref o2), (3, .int p3), (4, .int p4), (5, .int p5), (6, .int v6_16)]) rfl rfl (fun _ => subl_c rfl (subl_c rfl (subl_c rfl (subl_c rfl (subl_c rfl (subl_c rfl (subl_c rfl (subl_n)))))))) (fun v6_16 => ?_)
          refine s_goto rfl ?_
          exact s_back (lvL := lvL11) (s' := v6_16) (subl_c rfl (subl_c rfl (subl_c rfl (subl_c rfl (subl_c rfl (subl_c rfl (subl_c rfl (subl_n)))))))) hT15 (fun _ _ h => h)
        · refine s_ic1 rfl (zc_ge1 h13) ?_
          refine s_aload rfl rfl ?_
          refine s_iload rfl rfl ?_
          refine s_callI [.ref o1, .int p3] [] rfl rfl (Nat.le_of_ble_eq_true rfl) (ev_73 (d := d) (by omega) hT12 ho1) (fun r18 w17 hT17 => ?_)
          refine s_istoreF [(0, .ref o0), (1, .ref o1), (2, .ref o2), (4, .int p4), (5, .int p5), (6, .int r18)] rfl (subl_c rfl (subl_c rfl (subl_c rfl (subl_c rfl (subl_c rfl (subl_c rfl (subl_n))))))) ?_
          refine s_iload rfl rfl ?_
          refine s_jnP (fun (s55 : Unit) w => (97, [(0, .ref o0), (1, .ref o1), (2, .ref o2), (5, .int p5), (6, .int r18)], [], w)) (fun s55 w20 hT20 => ?_) (fun j19 hj19 => ?_)
          · show sp _ (PP _ _ _ (97, [(0, .ref o0), (1, .ref o1), (2, .ref o2), (5, .int p5), (6, .int r18)], [], w20))
            refine s_const rfl ?_
            refine s_istoreF [(0, .ref o0), (1, .ref o1), (2, .ref o2), (5, .int p5), (6, .int r18), (7, .int 0)] rfl (subl_c rfl (subl_c rfl (subl_c rfl (subl_c rfl (subl_c rfl (subl_c rfl (subl_n))))))) ?_
            let lvL22 : Int32 → List (Nat × Value) := fun s49 => [(0, .ref o0), (1, .ref o1), (2, .ref o2), (5, .int p5), (6, .int r18), (7, .int s49)]
            refine s_loop lvL22 (subl_c rfl (subl_c rfl (subl_c rfl (subl_c rfl (subl_c rfl (subl_c rfl (subl_n))))))) hT20 (fun v7_21 w23 hT23 => ?_)
            show sp _ (PP _ _ _ (100, [(0, .ref o0), (1, .ref o1), (2, .ref o2), (5, .int p5), (6, .int r18), (7, .int v7_21)], [], w23))
            refine s_iload rfl rfl ?_
            refine s_const rfl ?_
            refine s_jnP (fun (s48 : Unit) w => (146, [(0, .ref o0), (5, .int p5)], [], w)) (fun s48 w25 hT25 => ?_) (fun j24 hj24 => ?_)
            · show sp _ (PP _ _ _ (146, [(0, .ref o0), (5, .int p5)], [], w25))
              refine s_iload rfl rfl ?_
              refine s_jnP (fun (s39 : Int32) w => (171, [(0, .ref o0)], [.int s39], w)) (fun t27 w28 hT28 => ?_) (fun j26 hj26 => ?_)
              · show sp _ (PP _ _ _ (171, [(0, .ref o0)], [.int t27], w28))
                refine s_istoreF [(0, .ref o0), (7, .int t27)] rfl (subl_c rfl (subl_c rfl (subl_n))) ?_
                refine s_aload rfl rfl ?_
                refine s_iload rfl rfl ?_
                refine s_const rfl ?_
                refine s_div rfl (by decide) ?_
                refine s_putI rfl hT28 ho0 rfl (fun w29 hT29 => ?_)
                refine s_aload rfl rfl ?_
                refine s_iload rfl rfl ?_
                refine s_const rfl ?_
                refine s_rem rfl (by decide) ?_
                refine s_putI rfl hT29 ho0 rfl (fun w30 hT30 => ?_)
                refine s_iload rfl rfl ?_
                refine s_const rfl ?_
                refine sp_lt (fun z31 hz31 => ?_)
                refine s_dia (205, [(0, .ref o0), (7, .int t27)], [.int (bi z31)], w30) ?_ (fun hk32 => ?_)
                · exact s_retZ (z := z31) rfl rfl hT30 (fun _ _ h => h)
                · by_cases h33 : t27 < 1000000
                  · refine s_ic0 rfl (zc_ge0 h33) ?_
                    refine s_const rfl ?_
                    refine s_goto rfl ?_
                    refine s_cong ?_ hk32
                    (rw [hz31, if_pos h33]; rfl)
                  · refine s_ic1 rfl (zc_ge1 h33) ?_
                    refine s_const rfl ?_
                    refine s_cong ?_ hk32
                    (rw [hz31, if_neg h33]; rfl)
              · refine s_jnP (fun (s38 : Unit) w => (169, [(0, .ref o0)], [], w)) (fun s38 w35 hT35 => ?_) (fun j34 hj34 => ?_)
                · show sp _ (PP _ _ _ (169, [(0, .ref o0)], [], w35))
                  refine s_const rfl ?_
                  exact s_fgt _ (subl_c rfl (subl_n)) (hj26 1000000 w35 hT35)
                · refine sp_ite (fun h36 => ?_) (fun h36 => ?_)
                  · refine s_if0 rfl (zc_lt0 h36) ?_
                    refine s_iload rfl rfl ?_
                    refine s_const rfl ?_
                    refine sp_ite (fun h37 => ?_) (fun h37 => ?_)
                    · refine s_ic0 rfl (zc_ge0 h37) ?_
                      refine s_aload rfl rfl ?_
                      refine s_getF rfl hT25 ho0 rfl ?_
                      refine s_iload rfl rfl ?_
                      refine s_iald rfl hT25 (of_0_2 ho0) ?_
                      refine s_goto rfl ?_
                      exact s_fgt _ (subl_c rfl (subl_n)) (hj26 (wI w25 (o0 + 1) (ix p5)) w25 hT25)
                    · refine s_ic1 rfl (zc_ge1 h37) ?_
                      exact s_fgt _ (subl_c rfl (subl_n)) (hj34 () w25 hT25)
                  · refine s_if1 rfl (zc_lt1 h36) ?_
                    exact s_fgt _ (subl_c rfl (subl_n)) (hj34 () w25 hT25)
            · refine sp_ite (fun h40 => ?_) (fun h40 => ?_)
              · refine s_ic0 rfl (zc_ge0 h40) ?_
                refine s_aload rfl rfl ?_
                refine s_callI [.ref o0] [] rfl rfl (Nat.le_of_ble_eq_true rfl) (ev_125 (d := d) (by omega) hT23 ho0) (fun r42 w41 hT41 => ?_)
                refine s_istoreF [(0, .ref o0), (1, .ref o1), (2, .ref o2), (5, .int p5), (6, .int r18), (7, .int v7_21), (8, .int r42)] rfl (subl_c rfl (subl_c rfl (subl_c rfl (subl_c rfl (subl_c rfl (subl_c rfl (subl_c rfl (subl_n)))))))) ?_
                refine s_iload rfl rfl ?_
                refine s_const rfl ?_
                refine sp_ite (fun h43 => ?_) (fun h43 => ?_)
                · refine s_ic1 rfl (zc_eq1 h43) ?_
                  exact s_fgt _ (subl_c rfl (subl_c rfl (subl_n))) (hj24 () w41 hT41)
                · refine s_ic0 rfl (zc_eq0 h43) ?_
                  refine s_iload rfl rfl ?_
                  refine s_iload rfl rfl ?_
                  refine sp_ite (fun h44 => ?_) (fun h44 => ?_)
                  · refine s_ic0 rfl (zc_ne0 h44) ?_
                    refine s_goto rfl ?_
                    exact s_fgt _ (subl_c rfl (subl_c rfl (subl_n))) (hj24 () w41 hT41)
                  · refine s_ic1 rfl (zc_ne1 h44) ?_
                    refine s_aload rfl rfl ?_
                    refine s_aload rfl rfl ?_
                    refine s_aload rfl rfl ?_
                    refine s_iload rfl rfl ?_
                    refine s_iload rfl rfl ?_
                    refine s_callV [.ref o0, .ref o1, .ref o2, .int r42, .int r18] [] rfl rfl (Nat.le_of_ble_eq_true rfl) (ev_126 (d := d) (by omega) hT41 ho0 ho1 ho2) (fun _ w45 hT45 => ?_)
                    refine s_iincF (fun v7_47 => [(0, .ref o0), (1, .ref o1), (2, .ref o2), (5, .int p5), (6, .int r18), (7, .int v7_47)]) rfl rfl (fun _ => subl_c rfl (subl_c rfl (subl_c rfl (subl_c rfl (subl_c rfl (subl_c rfl (subl_n))))))) (fun v7_47 => ?_)
                    refine s_goto rfl ?_
                    exact s_back (lvL := lvL22) (s' := v7_47) (subl_c rfl (subl_c rfl (subl_c rfl (subl_c rfl (subl_c rfl (subl_c rfl (subl_n))))))) hT45 (fun _ _ h => h)
              · refine s_ic1 rfl (zc_ge1 h40) ?_
                exact s_fgt _ (subl_c rfl (subl_c rfl (subl_n))) (hj24 () w23 hT23)
          · refine sp_ite (fun h50 => ?_) (fun h50 => ?_)
            · refine s_if0 rfl (zc_lt0 h50) ?_
              refine s_iload rfl rfl ?_
              refine s_const rfl ?_
              refine sp_ite (fun h51 => ?_) (fun h51 => ?_)
              · refine s_ic0 rfl (zc_ge0 h51) ?_
                refine s_aload rfl rfl ?_
                refine s_getF rfl hT17 ho0 rfl ?_
                refine s_iload rfl rfl ?_
                refine s_aload rfl rfl ?_
                refine s_iload rfl rfl ?_
                refine s_iload rfl rfl ?_
                refine s_callI [.ref o2, .int p4, .int r18] [.int p4, .ref (o0 + 1)] rfl rfl (Nat.le_of_ble_eq_true rfl) (ev_124 (d := d) (by omega) hT17 ho2) (fun r53 w52 hT52 => ?_)
                refine s_iast rfl hT52 (of_0_2 ho0) (fun w54 hT54 => ?_)
                exact s_fgt _ (subl_c rfl (subl_c rfl (subl_c rfl (subl_c rfl (subl_c rfl (subl_n)))))) (hj19 () w54 hT54)
              · refine s_ic1 rfl (zc_ge1 h51) ?_
                exact s_fgt _ (subl_c rfl (subl_c rfl (subl_c rfl (subl_c rfl (subl_c rfl (subl_n)))))) (hj19 () w17 hT17)
            · refine s_if1 rfl (zc_lt1 h50) ?_
              exact s_fgt _ (subl_c rfl (subl_c rfl (subl_c rfl (subl_c rfl (subl_c rfl (subl_n)))))) (hj19 () w17 hT17)
      · refine s_if0 rfl (zb_ne0 h9) ?_
        refine s_const rfl ?_
        exact s_retZ (z := false) rfl rfl hT7 (fun _ _ h => h)
    · refine s_if1 rfl (zb_eq1 h6) ?_
      refine s_const rfl ?_
      exact s_retZ (z := false) rfl rfl hT4 (fun _ _ h => h)
  · refine s_if1 rfl (zb_eq1 h3) ?_
    refine s_const rfl ?_
    exact s_retZ (z := false) rfl rfl hT1 (fun _ _ h => h)
/-- RugReader.sign(III)I -/
def sh_121 (o0 : Nat) (p1 : Int32) (p2 : Int32) (p3 : Int32) (w : Wd) : Option (Int32 × Wd) := der (wR w o0 2) (fun a1 => cl (sh_122 (o0 + 64) a1 (o0 + 35) p1 p2 p3 w) (fun r3 w2 => if r3 = true then (der (wR w2 o0 2) (fun a5 => cl (sh_89 a5 p1 w2) (fun r7 w6 => some ((wI w2 (o0 + 64) 0) * r7, w6)))) else (some ((-1), w2))))
set_option maxRecDepth 20000 in
set_option maxHeartbeats 4000000 in
theorem ev_121 {d : Nat} (hd : 7 ≤ d) {o0 : Nat} {p1 : Int32} {p2 : Int32} {p3 : Int32} {w : Wd} (hT : TY w) (ho0 : ist o0 9) : sp (sh_121 o0 p1 p2 p3 w) (fun r w' => TY w' ∧ Ev d 121 [.ref o0, .int p1, .int p2, .int p3] w (cvI r) w') := by
  obtain ⟨d, rfl⟩ : ∃ d', d = d' + 1 := ⟨d - 1, by omega⟩
  refine ev_of (M := M121) zin_121 rfl (by decide) rfl (Nat.le_of_ble_eq_true rfl) (Or.inr ⟨o0, _, rfl, ho0⟩) hT ?_
  show sp _ (PP (Ev d) M121 (KR cvI) (0, [(0, .ref o0), (1, .int p1), (2, .int p2), (3, .int p3)], [], w))
  unfold sh_121
  refine s_aload rfl rfl ?_
  refine s_getF rfl hT ho0 rfl ?_
  refine s_aload rfl rfl ?_
  refine s_getD rfl hT ho0 (by decide) rfl (fun a1 ha1 => ?_)
  refine s_aload rfl rfl ?_
  refine s_getF rfl hT ho0 rfl ?_
  refine s_iload rfl rfl ?_
  refine s_iload rfl rfl ?_
  refine s_iload rfl rfl ?_
  refine s_callZ [.ref (o0 + 64), .ref a1, .ref (o0 + 35), .int p1, .int p2, .int p3] [] rfl rfl (Nat.le_of_ble_eq_true rfl) (ev_122 (d := d) (by omega) hT (of_9_16 ho0) ha1 (of_9_6 ho0)) (fun r3 w2 hT2 => ?_)
  refine sp_ite (fun h4 => ?_) (fun h4 => ?_)
  · refine s_if0 rfl (zb_eq0 h4) ?_
    refine s_aload rfl rfl ?_
    refine s_getF rfl hT2 ho0 rfl ?_
    refine s_getI rfl hT2 (of_9_16 ho0) ?_
    refine s_aload rfl rfl ?_
    refine s_getD rfl hT2 ho0 (by decide) rfl (fun a5 ha5 => ?_)
    refine s_iload rfl rfl ?_
    refine s_callI [.ref a5, .int p1] [.int (wI w2 (o0 + 64) 0)] rfl rfl (Nat.le_of_ble_eq_true rfl) (ev_89 (d := d) (by omega) hT2 ha5) (fun r7 w6 hT6 => ?_)
    refine s_bin rfl rfl ?_
    refine s_goto rfl ?_
    exact s_retI rfl rfl hT6 (fun _ _ h => h)
  · refine s_if1 rfl (zb_eq1 h4) ?_
    refine s_const rfl ?_
    exact s_retI rfl rfl hT2 (fun _ _ h => h)
/-- RugReader.steps(III)I -/
def sh_127 (o0 : Nat) (p1 : Int32) (p2 : Int32) (p3 : Int32) (w : Wd) : Option (Int32 × Wd) := der (wR w o0 2) (fun a1 => cl (sh_122 (o0 + 64) a1 (o0 + 35) p1 p2 p3 w) (fun r3 w2 => if r3 = true then (some (wI w2 (o0 + 64) 1, w2)) else (some ((-1), w2))))
set_option maxRecDepth 20000 in
set_option maxHeartbeats 4000000 in
theorem ev_127 {d : Nat} (hd : 7 ≤ d) {o0 : Nat} {p1 : Int32} {p2 : Int32} {p3 : Int32} {w : Wd} (hT : TY w) (ho0 : ist o0 9) : sp (sh_127 o0 p1 p2 p3 w) (fun r w' => TY w' ∧ Ev d 127 [.ref o0, .int p1, .int p2, .int p3] w (cvI r) w') := by
  obtain ⟨d, rfl⟩ : ∃ d', d = d' + 1 := ⟨d - 1, by omega⟩
  refine ev_of (M := M127) zin_127 rfl (by decide) rfl (Nat.le_of_ble_eq_true rfl) (Or.inr ⟨o0, _, rfl, ho0⟩) hT ?_
  show sp _ (PP (Ev d) M127 (KR cvI) (0, [(0, .ref o0), (1, .int p1), (2, .int p2), (3, .int p3)], [], w))
  unfold sh_127
  refine s_aload rfl rfl ?_
  refine s_getF rfl hT ho0 rfl ?_
  refine s_aload rfl rfl ?_
  refine s_getD rfl hT ho0 (by decide) rfl (fun a1 ha1 => ?_)
  refine s_aload rfl rfl ?_
  refine s_getF rfl hT ho0 rfl ?_
  refine s_iload rfl rfl ?_
  refine s_iload rfl rfl ?_
  refine s_iload rfl rfl ?_
  refine s_callZ [.ref (o0 + 64), .ref a1, .ref (o0 + 35), .int p1, .int p2, .int p3] [] rfl rfl (Nat.le_of_ble_eq_true rfl) (ev_122 (d := d) (by omega) hT (of_9_16 ho0) ha1 (of_9_6 ho0)) (fun r3 w2 hT2 => ?_)
  refine sp_ite (fun h4 => ?_) (fun h4 => ?_)
  · refine s_if0 rfl (zb_eq0 h4) ?_
    refine s_aload rfl rfl ?_
    refine s_getF rfl hT2 ho0 rfl ?_
    refine s_getI rfl hT2 (of_9_16 ho0) ?_
    refine s_goto rfl ?_
    exact s_retI rfl rfl hT2 (fun _ _ h => h)
  · refine s_if1 rfl (zb_eq1 h4) ?_
    refine s_const rfl ?_
    exact s_retI rfl rfl hT2 (fun _ _ h => h)
/-- RugReader$Walk.takePerson(LRugReader$Tape;LRugReader$House;)Z -/
def sh_130 (o0 : Nat) (o1 : Nat) (o2 : Nat) (w : Wd) : Option (Bool × Wd) := cl (sh_42 o1 w) (fun r2 w1 => if r2 = (-1) then (some (false, w1)) else (cl (sh_43 o2 r2 w1) (fun r5 w4 => stI w4 o0 0 r5 (fun w6 => if wI w6 o0 0 = (-1) then (cl (sh_36 o1 3 w6) (fun r9 w8 => some (r9, w8))) else (cl (sh_37 o1 w6) (fun _ w10 => cl (sh_38 o1 0 ((wI w10 o2 0) - 1) w10) (fun r13 w12 => if r13 = (-1) then (some (false, w12)) else (cl (sh_38 o1 0 ((wI w12 o2 1) - 1) w12) (fun r16 w15 => if r16 = (-1) then (some (false, w15)) else (stI w15 o0 1 ((r16 * 12) + r13) (fun w18 => cl (sh_58 o1 59 w18) (fun r20 w19 => some (r20, w19)))))))))))))
set_option maxRecDepth 20000 in
set_option maxHeartbeats 4000000 in
theorem ev_130 {d : Nat} (hd : 4 ≤ d) {o0 : Nat} {o1 : Nat} {o2 : Nat} {w : Wd} (hT : TY w) (ho0 : ist o0 8) (ho1 : ist o1 7) (ho2 : ist o2 1) : sp (sh_130 o0 o1 o2 w) (fun r w' => TY w' ∧ Ev d 130 [.ref o0, .ref o1, .ref o2] w (cvZ r) w') := by
  obtain ⟨d, rfl⟩ : ∃ d', d = d' + 1 := ⟨d - 1, by omega⟩
  refine ev_of (M := M130) zin_130 rfl (by decide) rfl (Nat.le_of_ble_eq_true rfl) (Or.inr ⟨o0, _, rfl, ho0⟩) hT ?_
  show sp _ (PP (Ev d) M130 (KR cvZ) (0, [(0, .ref o0), (1, .ref o1), (2, .ref o2)], [], w))
  unfold sh_130
  refine s_aload rfl rfl ?_
  refine s_callL [.ref o1] [] rfl rfl (Nat.le_of_ble_eq_true rfl) (ev_42 (d := d) (by omega) hT ho1) (fun r2 w1 hT1 => ?_)
  refine s_lstoreF [(0, .ref o0), (1, .ref o1), (2, .ref o2), (3, .long r2)] rfl (subl_c rfl (subl_c rfl (subl_c rfl (subl_c rfl (subl_n))))) ?_
  refine s_lload rfl rfl ?_
  refine s_lconst (x := (-1)) rfl rfl ?_
  refine s_lcmp rfl ?_
  refine sp_ite (fun h3 => ?_) (fun h3 => ?_)
  · refine s_if0 rfl (zl_ne0 h3) ?_
    refine s_const rfl ?_
    exact s_retZ (z := false) rfl rfl hT1 (fun _ _ h => h)
  · refine s_if1 rfl (zl_ne1 h3) ?_
    refine s_aload rfl rfl ?_
    refine s_aload rfl rfl ?_
    refine s_lload rfl rfl ?_
    refine s_callI [.ref o2, .long r2] [.ref o0] rfl rfl (Nat.le_of_ble_eq_true rfl) (ev_43 (d := d) (by omega) hT1 ho2) (fun r5 w4 hT4 => ?_)
    refine s_putI rfl hT4 ho0 rfl (fun w6 hT6 => ?_)
    refine s_aload rfl rfl ?_
    refine s_getI rfl hT6 ho0 ?_
    refine s_const rfl ?_
    refine sp_ite (fun h7 => ?_) (fun h7 => ?_)
    · refine s_ic0 rfl (zc_ne0 h7) ?_
      refine s_aload rfl rfl ?_
      refine s_const rfl ?_
      refine s_callZ [.ref o1, .int 3] [] rfl rfl (Nat.le_of_ble_eq_true rfl) (ev_36 (d := d) (by omega) hT6 ho1) (fun r9 w8 hT8 => ?_)
      exact s_retZ (z := r9) rfl rfl hT8 (fun _ _ h => h)
    · refine s_ic1 rfl (zc_ne1 h7) ?_
      refine s_aload rfl rfl ?_
      refine s_callV [.ref o1] [] rfl rfl (Nat.le_of_ble_eq_true rfl) (ev_37 (d := d) (by omega) hT6 ho1) (fun _ w10 hT10 => ?_)
      refine s_aload rfl rfl ?_
      refine s_const rfl ?_
      refine s_aload rfl rfl ?_
      refine s_getI rfl hT10 ho2 ?_
      refine s_const rfl ?_
      refine s_bin rfl rfl ?_
      refine s_callI [.ref o1, .int 0, .int ((wI w10 o2 0) - 1)] [] rfl rfl (Nat.le_of_ble_eq_true rfl) (ev_38 (d := d) (by omega) hT10 ho1) (fun r13 w12 hT12 => ?_)
      refine s_istoreF [(0, .ref o0), (1, .ref o1), (2, .ref o2), (5, .int r13)] rfl (subl_c rfl (subl_c rfl (subl_c rfl (subl_c rfl (subl_n))))) ?_
      refine s_iload rfl rfl ?_
      refine s_const rfl ?_
      refine sp_ite (fun h14 => ?_) (fun h14 => ?_)
      · refine s_ic0 rfl (zc_ne0 h14) ?_
        refine s_const rfl ?_
        exact s_retZ (z := false) rfl rfl hT12 (fun _ _ h => h)
      · refine s_ic1 rfl (zc_ne1 h14) ?_
        refine s_aload rfl rfl ?_
        refine s_const rfl ?_
        refine s_aload rfl rfl ?_
        refine s_getI rfl hT12 ho2 ?_
        refine s_const rfl ?_
        refine s_bin rfl rfl ?_
        refine s_callI [.ref o1, .int 0, .int ((wI w12 o2 1) - 1)] [] rfl rfl (Nat.le_of_ble_eq_true rfl) (ev_38 (d := d) (by omega) hT12 ho1) (fun r16 w15 hT15 => ?_)
        refine s_istoreF [(0, .ref o0), (1, .ref o1), (5, .int r13), (6, .int r16)] rfl (subl_c rfl (subl_c rfl (subl_c rfl (subl_c rfl (subl_n))))) ?_
        refine s_iload rfl rfl ?_
        refine s_const rfl ?_
        refine sp_ite (fun h17 => ?_) (fun h17 => ?_)
        · refine s_ic0 rfl (zc_ne0 h17) ?_
          refine s_const rfl ?_
          exact s_retZ (z := false) rfl rfl hT15 (fun _ _ h => h)
        · refine s_ic1 rfl (zc_ne1 h17) ?_
          refine s_aload rfl rfl ?_
          refine s_iload rfl rfl ?_
          refine s_const rfl ?_
          refine s_bin rfl rfl ?_
          refine s_iload rfl rfl ?_
          refine s_bin rfl rfl ?_
          refine s_putI rfl hT15 ho0 rfl (fun w18 hT18 => ?_)
          refine s_aload rfl rfl ?_
          refine s_const rfl ?_
          refine s_callZ [.ref o1, .int 59] [] rfl rfl (Nat.le_of_ble_eq_true rfl) (ev_58 (d := d) (by omega) hT18 ho1) (fun r20 w19 hT19 => ?_)
          exact s_retZ (z := r20) rfl rfl hT19 (fun _ _ h => h)
/-- RugReader$Walk.takeLine(LRugReader$Tape;)Z -/
def sh_131 (o0 : Nat) (o1 : Nat) (w : Wd) : Option (Bool × Wd) := lt (wI w o0 2 : Int32) (fun v2_1 => cl (sh_53 o1 w) (fun r3 w2 => if r3 = (-1) then (cl (sh_36 o1 1 w2) (fun r6 w5 => some (r6, w5))) else (if 0 ≤ v2_1 then (if 30 ≤ v2_1 then (cl (sh_36 o1 4 w2) (fun r10 w9 => some (r10, w9))) else (cl (sh_37 o1 w2) (fun _ w11 => gd (ib v2_1 30) (stI w11 (o0 + 1) (ix v2_1) r3 (fun w13 => cl (sh_38 o1 1 11 w13) (fun r15 w14 => gd (ib v2_1 30) (stI w14 (o0 + 2) (ix v2_1) r15 (fun w16 => gd (ib v2_1 30) (if wI w16 (o0 + 2) (ix v2_1) = (-1) then (some (false, w16)) else (cl (sh_38 o1 1 99 w16) (fun r19 w18 => gd (ib v2_1 30) (stI w18 (o0 + 3) (ix v2_1) r19 (fun w20 => gd (ib v2_1 30) (if wI w20 (o0 + 3) (ix v2_1) = (-1) then (some (false, w20)) else (stI w20 o0 2 ((wI w20 o0 2) + 1) (fun w22 => some (true, w22))))))))))))))))) else (cl (sh_36 o1 4 w2) (fun r24 w23 => some (r24, w23))))))
set_option maxRecDepth 20000 in
set_option maxHeartbeats 4000000 in
theorem ev_131 {d : Nat} (hd : 4 ≤ d) {o0 : Nat} {o1 : Nat} {w : Wd} (hT : TY w) (ho0 : ist o0 8) (ho1 : ist o1 7) : sp (sh_131 o0 o1 w) (fun r w' => TY w' ∧ Ev d 131 [.ref o0, .ref o1] w (cvZ r) w') := by
  obtain ⟨d, rfl⟩ : ∃ d', d = d' + 1 := ⟨d - 1, by omega⟩
  refine ev_of (M := M131) zin_131 rfl (by decide) rfl (Nat.le_of_ble_eq_true rfl) (Or.inr ⟨o0, _, rfl, ho0⟩) hT ?_
  show sp _ (PP (Ev d) M131 (KR cvZ) (0, [(0, .ref o0), (1, .ref o1)], [], w))
  unfold sh_131
  refine s_aload rfl rfl ?_
  refine s_getI rfl hT ho0 ?_
  refine s_nmI (fun v2_1 => ?_)
  refine s_istoreF [(0, .ref o0), (1, .ref o1), (2, .int v2_1)] rfl (subl_c rfl (subl_c rfl (subl_c rfl (subl_n)))) ?_
  refine s_aload rfl rfl ?_
  refine s_callI [.ref o1] [] rfl rfl (Nat.le_of_ble_eq_true rfl) (ev_53 (d := d) (by omega) hT ho1) (fun r3 w2 hT2 => ?_)
  refine s_istoreF [(0, .ref o0), (1, .ref o1), (2, .int v2_1), (3, .int r3)] rfl (subl_c rfl (subl_c rfl (subl_c rfl (subl_c rfl (subl_n))))) ?_
  refine s_iload rfl rfl ?_
  refine s_const rfl ?_
  refine sp_ite (fun h4 => ?_) (fun h4 => ?_)
  · refine s_ic0 rfl (zc_ne0 h4) ?_
    refine s_aload rfl rfl ?_
    refine s_const rfl ?_
    refine s_callZ [.ref o1, .int 1] [] rfl rfl (Nat.le_of_ble_eq_true rfl) (ev_36 (d := d) (by omega) hT2 ho1) (fun r6 w5 hT5 => ?_)
    exact s_retZ (z := r6) rfl rfl hT5 (fun _ _ h => h)
  · refine s_ic1 rfl (zc_ne1 h4) ?_
    refine s_iload rfl rfl ?_
    refine sp_ite (fun h7 => ?_) (fun h7 => ?_)
    · refine s_if0 rfl (zc_lt0 h7) ?_
      refine s_iload rfl rfl ?_
      refine s_const rfl ?_
      refine sp_ite (fun h8 => ?_) (fun h8 => ?_)
      · refine s_ic0 rfl (zc_lt0 h8) ?_
        refine s_aload rfl rfl ?_
        refine s_const rfl ?_
        refine s_callZ [.ref o1, .int 4] [] rfl rfl (Nat.le_of_ble_eq_true rfl) (ev_36 (d := d) (by omega) hT2 ho1) (fun r10 w9 hT9 => ?_)
        exact s_retZ (z := r10) rfl rfl hT9 (fun _ _ h => h)
      · refine s_ic1 rfl (zc_lt1 h8) ?_
        refine s_aload rfl rfl ?_
        refine s_callV [.ref o1] [] rfl rfl (Nat.le_of_ble_eq_true rfl) (ev_37 (d := d) (by omega) hT2 ho1) (fun _ w11 hT11 => ?_)
        refine s_aload rfl rfl ?_
        refine s_getF rfl hT11 ho0 rfl ?_
        refine s_iload rfl rfl ?_
        refine s_iload rfl rfl ?_
        refine s_iast rfl hT11 (of_8_3 ho0) (fun w13 hT13 => ?_)
        refine s_aload rfl rfl ?_
        refine s_getF rfl hT13 ho0 rfl ?_
        refine s_iload rfl rfl ?_
        refine s_aload rfl rfl ?_
        refine s_const rfl ?_
        refine s_const rfl ?_
        refine s_callI [.ref o1, .int 1, .int 11] [.int v2_1, .ref (o0 + 2)] rfl rfl (Nat.le_of_ble_eq_true rfl) (ev_38 (d := d) (by omega) hT13 ho1) (fun r15 w14 hT14 => ?_)
        refine s_iast rfl hT14 (of_8_4 ho0) (fun w16 hT16 => ?_)
        refine s_aload rfl rfl ?_
        refine s_getF rfl hT16 ho0 rfl ?_
        refine s_iload rfl rfl ?_
        refine s_iald rfl hT16 (of_8_4 ho0) ?_
        refine s_const rfl ?_
        refine sp_ite (fun h17 => ?_) (fun h17 => ?_)
        · refine s_ic0 rfl (zc_ne0 h17) ?_
          refine s_const rfl ?_
          exact s_retZ (z := false) rfl rfl hT16 (fun _ _ h => h)
        · refine s_ic1 rfl (zc_ne1 h17) ?_
          refine s_aload rfl rfl ?_
          refine s_getF rfl hT16 ho0 rfl ?_
          refine s_iload rfl rfl ?_
          refine s_aload rfl rfl ?_
          refine s_const rfl ?_
          refine s_const rfl ?_
          refine s_callI [.ref o1, .int 1, .int 99] [.int v2_1, .ref (o0 + 3)] rfl rfl (Nat.le_of_ble_eq_true rfl) (ev_38 (d := d) (by omega) hT16 ho1) (fun r19 w18 hT18 => ?_)
          refine s_iast rfl hT18 (of_8_5 ho0) (fun w20 hT20 => ?_)
          refine s_aload rfl rfl ?_
          refine s_getF rfl hT20 ho0 rfl ?_
          refine s_iload rfl rfl ?_
          refine s_iald rfl hT20 (of_8_5 ho0) ?_
          refine s_const rfl ?_
          refine sp_ite (fun h21 => ?_) (fun h21 => ?_)
          · refine s_ic0 rfl (zc_ne0 h21) ?_
            refine s_const rfl ?_
            exact s_retZ (z := false) rfl rfl hT20 (fun _ _ h => h)
          · refine s_ic1 rfl (zc_ne1 h21) ?_
            refine s_aload rfl rfl ?_
            refine s_dup rfl rfl ?_
            refine s_getI rfl hT20 ho0 ?_
            refine s_const rfl ?_
            refine s_bin rfl rfl ?_
            refine s_putI rfl hT20 ho0 rfl (fun w22 hT22 => ?_)
            refine s_const rfl ?_
            exact s_retZ (z := true) rfl rfl hT22 (fun _ _ h => h)
    · refine s_if1 rfl (zc_lt1 h7) ?_
      refine s_aload rfl rfl ?_
      refine s_const rfl ?_
      refine s_callZ [.ref o1, .int 4] [] rfl rfl (Nat.le_of_ble_eq_true rfl) (ev_36 (d := d) (by omega) hT2 ho1) (fun r24 w23 hT23 => ?_)
      exact s_retZ (z := r24) rfl rfl hT23 (fun _ _ h => h)
/-- RugReader$Walk.take(LRugReader$Tape;LRugReader$House;)Z -/
def sh_129 (o0 : Nat) (o1 : Nat) (o2 : Nat) (w : Wd) : Option (Bool × Wd) := stI w o0 2 0 (fun w1 => cl (sh_18 o1 300 w1) (fun _ w2 => cl (sh_130 o0 o1 o2 w2) (fun r5 w4 => if r5 = true then (itM (fun (v3_7 : Int32) (w9 : Wd) => if v3_7 ≤ 30 then (cl (sh_30 o1 w9) (fun r12 w11 => if r12 = true then (cl (sh_60 o1 w11) (fun r15 w14 => some (.inr (r15), w14))) else (cl (sh_131 o0 o1 w11) (fun r17 w16 => if r17 = true then (cl (sh_58 o1 59 w16) (fun r20 w19 => if r20 = true then (lt (v3_7 + 1 : Int32) (fun v3_22 => some (.inl v3_22, w19))) else (some (.inr (false), w19)))) else (some (.inr (false), w16)))))) else (cl (sh_60 o1 w9) (fun r24 w23 => some (.inr (r24), w23)))) FU 0 w4) else (some (false, w4)))))
set_option maxRecDepth 20000 in
set_option maxHeartbeats 4000000 in
theorem ev_129 {d : Nat} (hd : 6 ≤ d) {o0 : Nat} {o1 : Nat} {o2 : Nat} {w : Wd} (hT : TY w) (ho0 : ist o0 8) (ho1 : ist o1 7) (ho2 : ist o2 1) : sp (sh_129 o0 o1 o2 w) (fun r w' => TY w' ∧ Ev d 129 [.ref o0, .ref o1, .ref o2] w (cvZ r) w') := by
  obtain ⟨d, rfl⟩ : ∃ d', d = d' + 1 := ⟨d - 1, by omega⟩
  refine ev_of (M := M129) zin_129 rfl (by decide) rfl (Nat.le_of_ble_eq_true rfl) (Or.inr ⟨o0, _, rfl, ho0⟩) hT ?_
  show sp _ (PP (Ev d) M129 (KR cvZ) (0, [(0, .ref o0), (1, .ref o1), (2, .ref o2)], [], w))
  unfold sh_129
  refine s_aload rfl rfl ?_
  refine s_const rfl ?_
  refine s_putI rfl hT ho0 rfl (fun w1 hT1 => ?_)
  refine s_aload rfl rfl ?_
  refine s_const rfl ?_
  refine s_callV [.ref o1, .int 300] [] rfl rfl (Nat.le_of_ble_eq_true rfl) (ev_18 (d := d) (by omega) hT1 ho1) (fun _ w2 hT2 => ?_)
  refine s_aload rfl rfl ?_
  refine s_aload rfl rfl ?_
  refine s_aload rfl rfl ?_
  refine s_callZ [.ref o0, .ref o1, .ref o2] [] rfl rfl (Nat.le_of_ble_eq_true rfl) (ev_130 (d := d) (by omega) hT2 ho0 ho1 ho2) (fun r5 w4 hT4 => ?_)
  refine sp_ite (fun h6 => ?_) (fun h6 => ?_)
  · refine s_if1 rfl (zb_ne1 h6) ?_
    refine s_const rfl ?_
    refine s_istoreF [(0, .ref o0), (1, .ref o1), (3, .int 0)] rfl (subl_c rfl (subl_c rfl (subl_c rfl (subl_n)))) ?_
    let lvL8 : Int32 → List (Nat × Value) := fun s25 => [(0, .ref o0), (1, .ref o1), (3, .int s25)]
    refine s_loop lvL8 (subl_c rfl (subl_c rfl (subl_c rfl (subl_n)))) hT4 (fun v3_7 w9 hT9 => ?_)
    show sp _ (PP _ _ _ (25, [(0, .ref o0), (1, .ref o1), (3, .int v3_7)], [], w9))
    refine s_iload rfl rfl ?_
    refine s_const rfl ?_
    refine sp_ite (fun h10 => ?_) (fun h10 => ?_)
    · refine s_ic0 rfl (zc_gt0 h10) ?_
      refine s_aload rfl rfl ?_
      refine s_callZ [.ref o1] [] rfl rfl (Nat.le_of_ble_eq_true rfl) (ev_30 (d := d) (by omega) hT9 ho1) (fun r12 w11 hT11 => ?_)
      refine sp_ite (fun h13 => ?_) (fun h13 => ?_)
      · refine s_if1 rfl (zb_ne1 h13) ?_
        refine s_aload rfl rfl ?_
        refine s_callZ [.ref o1] [] rfl rfl (Nat.le_of_ble_eq_true rfl) (ev_60 (d := d) (by omega) hT11 ho1) (fun r15 w14 hT14 => ?_)
        exact s_retZ (z := r15) rfl rfl hT14 (fun _ _ h => h)
      · refine s_if0 rfl (zb_ne0 h13) ?_
        refine s_aload rfl rfl ?_
        refine s_aload rfl rfl ?_
        refine s_callZ [.ref o0, .ref o1] [] rfl rfl (Nat.le_of_ble_eq_true rfl) (ev_131 (d := d) (by omega) hT11 ho0 ho1) (fun r17 w16 hT16 => ?_)
        refine sp_ite (fun h18 => ?_) (fun h18 => ?_)
        · refine s_if0 rfl (zb_eq0 h18) ?_
          refine s_aload rfl rfl ?_
          refine s_const rfl ?_
          refine s_callZ [.ref o1, .int 59] [] rfl rfl (Nat.le_of_ble_eq_true rfl) (ev_58 (d := d) (by omega) hT16 ho1) (fun r20 w19 hT19 => ?_)
          refine sp_ite (fun h21 => ?_) (fun h21 => ?_)
          · refine s_if1 rfl (zb_ne1 h21) ?_
            refine s_iincF (fun v3_22 => [(0, .ref o0), (1, .ref o1), (3, .int v3_22)]) rfl rfl (fun _ => subl_c rfl (subl_c rfl (subl_c rfl (subl_n)))) (fun v3_22 => ?_)
            refine s_goto rfl ?_
            exact s_back (lvL := lvL8) (s' := v3_22) (subl_c rfl (subl_c rfl (subl_c rfl (subl_n)))) hT19 (fun _ _ h => h)
          · refine s_if0 rfl (zb_ne0 h21) ?_
            refine s_const rfl ?_
            exact s_retZ (z := false) rfl rfl hT19 (fun _ _ h => h)
        · refine s_if1 rfl (zb_eq1 h18) ?_
          refine s_const rfl ?_
          exact s_retZ (z := false) rfl rfl hT16 (fun _ _ h => h)
    · refine s_ic1 rfl (zc_gt1 h10) ?_
      refine s_aload rfl rfl ?_
      refine s_callZ [.ref o1] [] rfl rfl (Nat.le_of_ble_eq_true rfl) (ev_60 (d := d) (by omega) hT9 ho1) (fun r24 w23 hT23 => ?_)
      exact s_retZ (z := r24) rfl rfl hT23 (fun _ _ h => h)
  · refine s_if0 rfl (zb_ne0 h6) ?_
    refine s_const rfl ?_
    exact s_retZ (z := false) rfl rfl hT4 (fun _ _ h => h)
/-- RugReader$House.paceOf(I)I -/
def sh_134 (o0 : Nat) (p1 : Int32) (w : Wd) : Option (Int32 × Wd) := cl (sh_69 o0 p1 w) (fun r2 w1 => if r2 = true then (gd (ib p1 6) (some (wI w1 (o0 + 3) (ix p1), w1))) else (some (0, w1)))
set_option maxRecDepth 20000 in
set_option maxHeartbeats 4000000 in
theorem ev_134 {d : Nat} (hd : 2 ≤ d) {o0 : Nat} {p1 : Int32} {w : Wd} (hT : TY w) (ho0 : ist o0 1) : sp (sh_134 o0 p1 w) (fun r w' => TY w' ∧ Ev d 134 [.ref o0, .int p1] w (cvI r) w') := by
  obtain ⟨d, rfl⟩ : ∃ d', d = d' + 1 := ⟨d - 1, by omega⟩
  refine ev_of (M := M134) zin_134 rfl (by decide) rfl (Nat.le_of_ble_eq_true rfl) (Or.inr ⟨o0, _, rfl, ho0⟩) hT ?_
  show sp _ (PP (Ev d) M134 (KR cvI) (0, [(0, .ref o0), (1, .int p1)], [], w))
  unfold sh_134
  refine s_aload rfl rfl ?_
  refine s_iload rfl rfl ?_
  refine s_callZ [.ref o0, .int p1] [] rfl rfl (Nat.le_of_ble_eq_true rfl) (ev_69 (d := d) (by omega) hT ho0) (fun r2 w1 hT1 => ?_)
  refine sp_ite (fun h3 => ?_) (fun h3 => ?_)
  · refine s_if0 rfl (zb_eq0 h3) ?_
    refine s_aload rfl rfl ?_
    refine s_getF rfl hT1 ho0 rfl ?_
    refine s_iload rfl rfl ?_
    refine s_iald rfl hT1 (of_1_9 ho0) ?_
    refine s_goto rfl ?_
    exact s_retI rfl rfl hT1 (fun _ _ h => h)
  · refine s_if1 rfl (zb_eq1 h3) ?_
    refine s_const rfl ?_
    exact s_retI rfl rfl hT1 (fun _ _ h => h)
/-- java/lang/Math.abs(I)I -/
def sh_135 (p0 : Int32) (w : Wd) : Option (Int32 × Wd) := lt (if p0 < 0 then -p0 else p0 : Int32) (fun z1 => some (z1, w))
set_option maxRecDepth 20000 in
set_option maxHeartbeats 4000000 in
theorem ev_135 {d : Nat} (hd : 1 ≤ d) {p0 : Int32} {w : Wd} (hT : TY w)  : sp (sh_135 p0 w) (fun r w' => TY w' ∧ Ev d 135 [.int p0] w (cvI r) w') := by
  obtain ⟨d, rfl⟩ : ∃ d', d = d' + 1 := ⟨d - 1, by omega⟩
  refine ev_of (M := M135) zin_135 rfl (by decide) rfl (Nat.le_of_ble_eq_true rfl) (Or.inl rfl) hT ?_
  show sp _ (PP (Ev d) M135 (KR cvI) (0, [(0, .int p0)], [], w))
  unfold sh_135
  refine s_iload rfl rfl ?_
  refine sp_lt (fun z1 hz1 => ?_)
  refine s_dia (10, [(0, .int p0)], [.int z1], w) ?_ (fun hk2 => ?_)
  · exact s_retI rfl rfl hT (fun _ _ h => h)
  · by_cases h3 : p0 < 0
    · refine s_if0 rfl (zc_ge0 h3) ?_
      refine s_iload rfl rfl ?_
      refine s_ineg rfl ?_
      refine s_goto rfl ?_
      refine s_cong ?_ hk2
      (rw [hz1, if_pos h3])
    · refine s_if1 rfl (zc_ge1 h3) ?_
      refine s_iload rfl rfl ?_
      refine s_cong ?_ hk2
      (rw [hz1, if_neg h3])
/-- RugReader$Walk.wrongOf(LRugReader$House;I)I -/
def sh_133 (o0 : Nat) (o1 : Nat) (p2 : Int32) (w : Wd) : Option (Int32 × Wd) := if 0 ≤ p2 then (if 30 ≤ p2 then (some (0, w)) else (gd (ib p2 30) (cl (sh_134 o1 (wI w o0 0) w) (fun r4 w3 => gd (ib p2 30) (if r4 * (wI w3 (o0 + 3) (ix p2)) < wI w (o0 + 2) (ix p2) then (some (2, w3)) else (jn (fun (t7 : Bool) (w8 : Wd) => if t7 = true then (gd (ib p2 30) (if wI w8 (o0 + 3) (ix p2) = 1 then (some (3, w8)) else (some (0, w8)))) else (some (0, w8))) (fun j6 => jn (fun (s17 : Unit) (w12 : Wd) => j6 false w12) (fun j11 => if 0 < p2 then (gd (ib p2 30) (gd (ib (p2 - 1) 30) (cl (sh_135 ((wI w3 (o0 + 1) (ix p2)) - (wI w3 (o0 + 1) (ix (p2 - 1)))) w3) (fun r15 w14 => if r15 = 2 then (j6 true w14) else (j11 () w14))))) else (j11 () w3))))))))) else (some (0, w))
set_option maxRecDepth 20000 in
set_option maxHeartbeats 4000000 in
theorem ev_133 {d : Nat} (hd : 3 ≤ d) {o0 : Nat} {o1 : Nat} {p2 : Int32} {w : Wd} (hT : TY w) (ho0 : ist o0 8) (ho1 : ist o1 1) : sp (sh_133 o0 o1 p2 w) (fun r w' => TY w' ∧ Ev d 133 [.ref o0, .ref o1, .int p2] w (cvI r) w') := by
  obtain ⟨d, rfl⟩ : ∃ d', d = d' + 1 := ⟨d - 1, by omega⟩
  refine ev_of (M := M133) zin_133 rfl (by decide) rfl (Nat.le_of_ble_eq_true rfl) (Or.inr ⟨o0, _, rfl, ho0⟩) hT ?_
  show sp _ (PP (Ev d) M133 (KR cvI) (0, [(0, .ref o0), (1, .ref o1), (2, .int p2)], [], w))
  unfold sh_133
  refine s_iload rfl rfl ?_
  refine sp_ite (fun h1 => ?_) (fun h1 => ?_)
  · refine s_if0 rfl (zc_lt0 h1) ?_
    refine s_iload rfl rfl ?_
    refine s_const rfl ?_
    refine sp_ite (fun h2 => ?_) (fun h2 => ?_)
    · refine s_ic0 rfl (zc_lt0 h2) ?_
      refine s_const rfl ?_
      exact s_retI rfl rfl hT (fun _ _ h => h)
    · refine s_ic1 rfl (zc_lt1 h2) ?_
      refine s_aload rfl rfl ?_
      refine s_getF rfl hT ho0 rfl ?_
      refine s_iload rfl rfl ?_
      refine s_iald rfl hT (of_8_4 ho0) ?_
      refine s_aload rfl rfl ?_
      refine s_aload rfl rfl ?_
      refine s_getI rfl hT ho0 ?_
      refine s_callI [.ref o1, .int (wI w o0 0)] [.int (wI w (o0 + 2) (ix p2))] rfl rfl (Nat.le_of_ble_eq_true rfl) (ev_134 (d := d) (by omega) hT ho1) (fun r4 w3 hT3 => ?_)
      refine s_aload rfl rfl ?_
      refine s_getF rfl hT3 ho0 rfl ?_
      refine s_iload rfl rfl ?_
      refine s_iald rfl hT3 (of_8_5 ho0) ?_
      refine s_bin rfl rfl ?_
      refine sp_ite (fun h5 => ?_) (fun h5 => ?_)
      · refine s_ic0 rfl (zc_le0 h5) ?_
        refine s_const rfl ?_
        exact s_retI rfl rfl hT3 (fun _ _ h => h)
      · refine s_ic1 rfl (zc_le1 h5) ?_
        refine s_iload rfl rfl ?_
        refine s_jnP (fun (s18 : Bool) w => (69, [(0, .ref o0), (2, .int p2)], [.int (bi s18)], w)) (fun t7 w8 hT8 => ?_) (fun j6 hj6 => ?_)
        · show sp _ (PP _ _ _ (69, [(0, .ref o0), (2, .int p2)], [.int (bi t7)], w8))
          refine s_istoreF [(0, .ref o0), (2, .int p2), (3, .int (bi t7))] rfl (subl_c rfl (subl_c rfl (subl_c rfl (subl_n)))) ?_
          refine s_iload rfl rfl ?_
          refine sp_ite (fun h9 => ?_) (fun h9 => ?_)
          · refine s_if0 rfl (zb_eq0 h9) ?_
            refine s_aload rfl rfl ?_
            refine s_getF rfl hT8 ho0 rfl ?_
            refine s_iload rfl rfl ?_
            refine s_iald rfl hT8 (of_8_5 ho0) ?_
            refine s_const rfl ?_
            refine sp_ite (fun h10 => ?_) (fun h10 => ?_)
            · refine s_ic0 rfl (zc_ne0 h10) ?_
              refine s_const rfl ?_
              refine s_goto rfl ?_
              exact s_retI rfl rfl hT8 (fun _ _ h => h)
            · refine s_ic1 rfl (zc_ne1 h10) ?_
              refine s_const rfl ?_
              exact s_retI rfl rfl hT8 (fun _ _ h => h)
          · refine s_if1 rfl (zb_eq1 h9) ?_
            refine s_const rfl ?_
            exact s_retI rfl rfl hT8 (fun _ _ h => h)
        · refine s_jnP (fun (s17 : Unit) w => (68, [(0, .ref o0), (2, .int p2)], [], w)) (fun s17 w12 hT12 => ?_) (fun j11 hj11 => ?_)
          · show sp _ (PP _ _ _ (68, [(0, .ref o0), (2, .int p2)], [], w12))
            refine s_const rfl ?_
            exact s_fgt _ (subl_c rfl (subl_c rfl (subl_n))) (hj6 false w12 hT12)
          · refine sp_ite (fun h13 => ?_) (fun h13 => ?_)
            · refine s_if0 rfl (zc_le0 h13) ?_
              refine s_aload rfl rfl ?_
              refine s_getF rfl hT3 ho0 rfl ?_
              refine s_iload rfl rfl ?_
              refine s_iald rfl hT3 (of_8_3 ho0) ?_
              refine s_aload rfl rfl ?_
              refine s_getF rfl hT3 ho0 rfl ?_
              refine s_iload rfl rfl ?_
              refine s_const rfl ?_
              refine s_bin rfl rfl ?_
              refine s_iald rfl hT3 (of_8_3 ho0) ?_
              refine s_bin rfl rfl ?_
              refine s_callI [.int ((wI w3 (o0 + 1) (ix p2)) - (wI w3 (o0 + 1) (ix (p2 - 1))))] [] rfl rfl (Nat.le_of_ble_eq_true rfl) (ev_135 (d := d) (by omega) hT3 ) (fun r15 w14 hT14 => ?_)
              refine s_const rfl ?_
              refine sp_ite (fun h16 => ?_) (fun h16 => ?_)
              · refine s_ic0 rfl (zc_ne0 h16) ?_
                refine s_const rfl ?_
                refine s_goto rfl ?_
                exact s_fgt _ (subl_c rfl (subl_c rfl (subl_n))) (hj6 true w14 hT14)
              · refine s_ic1 rfl (zc_ne1 h16) ?_
                exact s_fgt _ (subl_c rfl (subl_c rfl (subl_n))) (hj11 () w14 hT14)
            · refine s_if1 rfl (zc_le1 h13) ?_
              exact s_fgt _ (subl_c rfl (subl_c rfl (subl_n))) (hj11 () w3 hT3)
  · refine s_if1 rfl (zc_lt1 h1) ?_
    refine s_const rfl ?_
    exact s_retI rfl rfl hT (fun _ _ h => h)
