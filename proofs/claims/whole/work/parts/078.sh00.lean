/-! printed by program (wip/whole/gen/sh.py): the methods as programs over worlds, and that the small machine does what they say -/
/-- RugReader$Tape.hasRoom(I)Z -/
def sh_12 (o0 : Nat) (p1 : Int32) (w : Wd) : Option (Bool × Wd) := lt (if wI w o0 1 ≤ 940 - p1 then true else false : Bool) (fun z1 => some (z1, w))
set_option maxRecDepth 20000 in
set_option maxHeartbeats 4000000 in
theorem ev_12 {d : Nat} (hd : 1 ≤ d) {o0 : Nat} {p1 : Int32} {w : Wd} (hT : TY w) (ho0 : ist o0 7) : sp (sh_12 o0 p1 w) (fun r w' => TY w' ∧ Ev d 12 [.ref o0, .int p1] w (cvZ r) w') := by
  obtain ⟨d, rfl⟩ : ∃ d', d = d' + 1 := ⟨d - 1, by omega⟩
  refine ev_of (M := M12) zin_12 rfl (by decide) rfl (Nat.le_of_ble_eq_true rfl) (Or.inr ⟨o0, _, rfl, ho0⟩) hT ?_
  show sp _ (PP (Ev d) M12 (KR cvZ) (0, [(0, .ref o0), (1, .int p1)], [], w))
  unfold sh_12
  refine s_aload rfl rfl ?_
  refine s_getI rfl hT ho0 ?_
  refine s_const rfl ?_
  refine s_iload rfl rfl ?_
  refine s_bin rfl rfl ?_
  refine sp_lt (fun z1 hz1 => ?_)
  refine s_dia (17, [(0, .ref o0), (1, .int p1)], [.int (bi z1)], w) ?_ (fun hk2 => ?_)
  · exact s_retZ (z := z1) rfl rfl hT (fun _ _ h => h)
  · by_cases h3 : wI w o0 1 ≤ 940 - p1
    · refine s_ic0 rfl (zc_gt0 h3) ?_
      refine s_const rfl ?_
      refine s_goto rfl ?_
      refine s_cong ?_ hk2
      (rw [hz1, if_pos h3]; rfl)
    · refine s_ic1 rfl (zc_gt1 h3) ?_
      refine s_const rfl ?_
      refine s_cong ?_ hk2
      (rw [hz1, if_neg h3]; rfl)
/-- RugReader$Tape.put(I)V -/
def sh_13 (o0 : Nat) (p1 : Int32) (w : Wd) : Option (Unit × Wd) := itM (fun (v2_1 : Int32) (w3 : Wd) => if 0 ≤ v2_1 then (if 0 ≤ wI w3 o0 1 then (if wI w3 o0 1 < 940 then (gd (ib (wI w3 o0 1) 940) (stI w3 (o0 + 1) (ix (wI w3 o0 1)) ((zush p1 v2_1) &&& 255) (fun w7 => stI w7 o0 1 ((wI w7 o0 1) + 1) (fun w8 => lt (v2_1 + (-8) : Int32) (fun v2_9 => some (.inl v2_9, w8)))))) else (lt (v2_1 + (-8) : Int32) (fun v2_10 => some (.inl v2_10, w3)))) else (lt (v2_1 + (-8) : Int32) (fun v2_11 => some (.inl v2_11, w3)))) else (some (.inr (()), w3))) FU 24 w
set_option maxRecDepth 20000 in
set_option maxHeartbeats 4000000 in
theorem ev_13 {d : Nat} (hd : 1 ≤ d) {o0 : Nat} {p1 : Int32} {w : Wd} (hT : TY w) (ho0 : ist o0 7) : sp (sh_13 o0 p1 w) (fun r w' => TY w' ∧ Ev d 13 [.ref o0, .int p1] w (cvV r) w') := by
  obtain ⟨d, rfl⟩ : ∃ d', d = d' + 1 := ⟨d - 1, by omega⟩
  refine ev_of (M := M13) zin_13 rfl (by decide) rfl (Nat.le_of_ble_eq_true rfl) (Or.inr ⟨o0, _, rfl, ho0⟩) hT ?_
  show sp _ (PP (Ev d) M13 (KR cvV) (0, [(0, .ref o0), (1, .int p1)], [], w))
  unfold sh_13
  refine s_const rfl ?_
  refine s_istoreF [(0, .ref o0), (1, .int p1), (2, .int 24)] rfl (subl_c rfl (subl_c rfl (subl_c rfl (subl_n)))) ?_
  let lvL2 : Int32 → List (Nat × Value) := fun s12 => [(0, .ref o0), (1, .int p1), (2, .int s12)]
  refine s_loop lvL2 (subl_c rfl (subl_c rfl (subl_c rfl (subl_n)))) hT (fun v2_1 w3 hT3 => ?_)
  show sp _ (PP _ _ _ (3, [(0, .ref o0), (1, .int p1), (2, .int v2_1)], [], w3))
  refine s_iload rfl rfl ?_
  refine sp_ite (fun h4 => ?_) (fun h4 => ?_)
  · refine s_if0 rfl (zc_lt0 h4) ?_
    refine s_aload rfl rfl ?_
    refine s_getI rfl hT3 ho0 ?_
    refine sp_ite (fun h5 => ?_) (fun h5 => ?_)
    · refine s_if0 rfl (zc_lt0 h5) ?_
      refine s_aload rfl rfl ?_
      refine s_getI rfl hT3 ho0 ?_
      refine s_const rfl ?_
      refine sp_ite (fun h6 => ?_) (fun h6 => ?_)
      · refine s_ic0 rfl (zc_ge0 h6) ?_
        refine s_aload rfl rfl ?_
        refine s_getF rfl hT3 ho0 rfl ?_
        refine s_aload rfl rfl ?_
        refine s_getI rfl hT3 ho0 ?_
        refine s_iload rfl rfl ?_
        refine s_iload rfl rfl ?_
        refine s_bin rfl rfl ?_
        refine s_const rfl ?_
        refine s_bin rfl rfl ?_
        refine s_iast rfl hT3 (of_7_0 ho0) (fun w7 hT7 => ?_)
        refine s_aload rfl rfl ?_
        refine s_dup rfl rfl ?_
        refine s_getI rfl hT7 ho0 ?_
        refine s_const rfl ?_
        refine s_bin rfl rfl ?_
        refine s_putI rfl hT7 ho0 rfl (fun w8 hT8 => ?_)
        refine s_iincF (fun v2_9 => [(0, .ref o0), (1, .int p1), (2, .int v2_9)]) rfl rfl (fun _ => subl_c rfl (subl_c rfl (subl_c rfl (subl_n)))) (fun v2_9 => ?_)
        refine s_goto rfl ?_
        exact s_back (lvL := lvL2) (s' := v2_9) (subl_c rfl (subl_c rfl (subl_c rfl (subl_n)))) hT8 (fun _ _ h => h)
      · refine s_ic1 rfl (zc_ge1 h6) ?_
        refine s_iincF (fun v2_10 => [(0, .ref o0), (1, .int p1), (2, .int v2_10)]) rfl rfl (fun _ => subl_c rfl (subl_c rfl (subl_c rfl (subl_n)))) (fun v2_10 => ?_)
        refine s_goto rfl ?_
        exact s_back (lvL := lvL2) (s' := v2_10) (subl_c rfl (subl_c rfl (subl_c rfl (subl_n)))) hT3 (fun _ _ h => h)
    · refine s_if1 rfl (zc_lt1 h5) ?_
      refine s_iincF (fun v2_11 => [(0, .ref o0), (1, .int p1), (2, .int v2_11)]) rfl rfl (fun _ => subl_c rfl (subl_c rfl (subl_c rfl (subl_n)))) (fun v2_11 => ?_)
      refine s_goto rfl ?_
      exact s_back (lvL := lvL2) (s' := v2_11) (subl_c rfl (subl_c rfl (subl_c rfl (subl_n)))) hT3 (fun _ _ h => h)
  · refine s_if1 rfl (zc_lt1 h4) ?_
    exact s_retV rfl rfl hT3 (fun _ _ h => h)
/-- RugReader.feed(IIIII)I -/
def sh_11 (o0 : Nat) (p1 : Int32) (p2 : Int32) (p3 : Int32) (p4 : Int32) (p5 : Int32) (w : Wd) : Option (Int32 × Wd) := cl (sh_12 (o0 + 1) 20 w) (fun r2 w1 => if r2 = true then (cl (sh_13 (o0 + 1) p1 w1) (fun _ w4 => cl (sh_13 (o0 + 1) p2 w4) (fun _ w6 => cl (sh_13 (o0 + 1) p3 w6) (fun _ w8 => cl (sh_13 (o0 + 1) p4 w8) (fun _ w10 => cl (sh_13 (o0 + 1) p5 w10) (fun _ w12 => some (wI w12 (o0 + 1) 1, w12))))))) else (some ((-1), w1)))
set_option maxRecDepth 20000 in
set_option maxHeartbeats 4000000 in
theorem ev_11 {d : Nat} (hd : 2 ≤ d) {o0 : Nat} {p1 : Int32} {p2 : Int32} {p3 : Int32} {p4 : Int32} {p5 : Int32} {w : Wd} (hT : TY w) (ho0 : ist o0 9) : sp (sh_11 o0 p1 p2 p3 p4 p5 w) (fun r w' => TY w' ∧ Ev d 11 [.ref o0, .int p1, .int p2, .int p3, .int p4, .int p5] w (cvI r) w') := by
  obtain ⟨d, rfl⟩ : ∃ d', d = d' + 1 := ⟨d - 1, by omega⟩
  refine ev_of (M := M11) zin_11 rfl (by decide) rfl (Nat.le_of_ble_eq_true rfl) (Or.inr ⟨o0, _, rfl, ho0⟩) hT ?_
  show sp _ (PP (Ev d) M11 (KR cvI) (0, [(0, .ref o0), (1, .int p1), (2, .int p2), (3, .int p3), (4, .int p4), (5, .int p5)], [], w))
  unfold sh_11
  refine s_aload rfl rfl ?_
  refine s_getF rfl hT ho0 rfl ?_
  refine s_const rfl ?_
  refine s_callZ [.ref (o0 + 1), .int 20] [] rfl rfl (Nat.le_of_ble_eq_true rfl) (ev_12 (d := d) (by omega) hT (of_9_0 ho0)) (fun r2 w1 hT1 => ?_)
  refine sp_ite (fun h3 => ?_) (fun h3 => ?_)
  · refine s_if1 rfl (zb_ne1 h3) ?_
    refine s_aload rfl rfl ?_
    refine s_getF rfl hT1 ho0 rfl ?_
    refine s_iload rfl rfl ?_
    refine s_callV [.ref (o0 + 1), .int p1] [] rfl rfl (Nat.le_of_ble_eq_true rfl) (ev_13 (d := d) (by omega) hT1 (of_9_0 ho0)) (fun _ w4 hT4 => ?_)
    refine s_aload rfl rfl ?_
    refine s_getF rfl hT4 ho0 rfl ?_
    refine s_iload rfl rfl ?_
    refine s_callV [.ref (o0 + 1), .int p2] [] rfl rfl (Nat.le_of_ble_eq_true rfl) (ev_13 (d := d) (by omega) hT4 (of_9_0 ho0)) (fun _ w6 hT6 => ?_)
    refine s_aload rfl rfl ?_
    refine s_getF rfl hT6 ho0 rfl ?_
    refine s_iload rfl rfl ?_
    refine s_callV [.ref (o0 + 1), .int p3] [] rfl rfl (Nat.le_of_ble_eq_true rfl) (ev_13 (d := d) (by omega) hT6 (of_9_0 ho0)) (fun _ w8 hT8 => ?_)
    refine s_aload rfl rfl ?_
    refine s_getF rfl hT8 ho0 rfl ?_
    refine s_iload rfl rfl ?_
    refine s_callV [.ref (o0 + 1), .int p4] [] rfl rfl (Nat.le_of_ble_eq_true rfl) (ev_13 (d := d) (by omega) hT8 (of_9_0 ho0)) (fun _ w10 hT10 => ?_)
    refine s_aload rfl rfl ?_
    refine s_getF rfl hT10 ho0 rfl ?_
    refine s_iload rfl rfl ?_
    refine s_callV [.ref (o0 + 1), .int p5] [] rfl rfl (Nat.le_of_ble_eq_true rfl) (ev_13 (d := d) (by omega) hT10 (of_9_0 ho0)) (fun _ w12 hT12 => ?_)
    refine s_aload rfl rfl ?_
    refine s_getF rfl hT12 ho0 rfl ?_
    refine s_getI rfl hT12 (of_9_0 ho0) ?_
    exact s_retI rfl rfl hT12 (fun _ _ h => h)
  · refine s_if0 rfl (zb_ne0 h3) ?_
    refine s_const rfl ?_
    exact s_retI rfl rfl hT1 (fun _ _ h => h)
/-- RugReader.end(I)Z -/
def sh_14 (o0 : Nat) (p1 : Int32) (w : Wd) : Option (Bool × Wd) := if 0 ≤ p1 then (if wI w (o0 + 1) 1 < p1 then (some (false, w)) else (stI w (o0 + 1) 1 p1 (fun w3 => some (true, w3)))) else (some (false, w))
set_option maxRecDepth 20000 in
set_option maxHeartbeats 4000000 in
theorem ev_14 {d : Nat} (hd : 1 ≤ d) {o0 : Nat} {p1 : Int32} {w : Wd} (hT : TY w) (ho0 : ist o0 9) : sp (sh_14 o0 p1 w) (fun r w' => TY w' ∧ Ev d 14 [.ref o0, .int p1] w (cvZ r) w') := by
  obtain ⟨d, rfl⟩ : ∃ d', d = d' + 1 := ⟨d - 1, by omega⟩
  refine ev_of (M := M14) zin_14 rfl (by decide) rfl (Nat.le_of_ble_eq_true rfl) (Or.inr ⟨o0, _, rfl, ho0⟩) hT ?_
  show sp _ (PP (Ev d) M14 (KR cvZ) (0, [(0, .ref o0), (1, .int p1)], [], w))
  unfold sh_14
  refine s_iload rfl rfl ?_
  refine sp_ite (fun h1 => ?_) (fun h1 => ?_)
  · refine s_if0 rfl (zc_lt0 h1) ?_
    refine s_iload rfl rfl ?_
    refine s_aload rfl rfl ?_
    refine s_getF rfl hT ho0 rfl ?_
    refine s_getI rfl hT (of_9_0 ho0) ?_
    refine sp_ite (fun h2 => ?_) (fun h2 => ?_)
    · refine s_ic0 rfl (zc_le0 h2) ?_
      refine s_const rfl ?_
      exact s_retZ (z := false) rfl rfl hT (fun _ _ h => h)
    · refine s_ic1 rfl (zc_le1 h2) ?_
      refine s_aload rfl rfl ?_
      refine s_getF rfl hT ho0 rfl ?_
      refine s_iload rfl rfl ?_
      refine s_putI rfl hT (of_9_0 ho0) rfl (fun w3 hT3 => ?_)
      refine s_const rfl ?_
      exact s_retZ (z := true) rfl rfl hT3 (fun _ _ h => h)
  · refine s_if1 rfl (zc_lt1 h1) ?_
    refine s_const rfl ?_
    exact s_retZ (z := false) rfl rfl hT (fun _ _ h => h)
/-- RugReader$House.clear()V -/
def sh_17 (o0 : Nat) (w : Wd) : Option (Unit × Wd) := stI w o0 0 0 (fun w1 => stI w1 o0 1 0 (fun w2 => stI w2 o0 2 0 (fun w3 => stI w3 o0 3 0 (fun w4 => stI w4 o0 4 0 (fun w5 => stI w5 o0 5 0 (fun w6 => stI w6 o0 6 0 (fun w7 => itM (fun (v1_8 : Int32) (w10 : Wd) => if v1_8 < 144 then (gd (ib v1_8 144) (stI w10 (o0 + 8) (ix v1_8) 0 (fun w12 => lt (v1_8 + 1 : Int32) (fun v1_13 => some (.inl v1_13, w12))))) else (some (.inr (()), w10))) FU 0 w7)))))))
set_option maxRecDepth 20000 in
set_option maxHeartbeats 4000000 in
theorem ev_17 {d : Nat} (hd : 1 ≤ d) {o0 : Nat} {w : Wd} (hT : TY w) (ho0 : ist o0 1) : sp (sh_17 o0 w) (fun r w' => TY w' ∧ Ev d 17 [.ref o0] w (cvV r) w') := by
  obtain ⟨d, rfl⟩ : ∃ d', d = d' + 1 := ⟨d - 1, by omega⟩
  refine ev_of (M := M17) zin_17 rfl (by decide) rfl (Nat.le_of_ble_eq_true rfl) (Or.inr ⟨o0, _, rfl, ho0⟩) hT ?_
  show sp _ (PP (Ev d) M17 (KR cvV) (0, [(0, .ref o0)], [], w))
  unfold sh_17
  refine s_aload rfl rfl ?_
  refine s_const rfl ?_
  refine s_putI rfl hT ho0 rfl (fun w1 hT1 => ?_)
  refine s_aload rfl rfl ?_
  refine s_const rfl ?_
  refine s_putI rfl hT1 ho0 rfl (fun w2 hT2 => ?_)
  refine s_aload rfl rfl ?_
  refine s_const rfl ?_
  refine s_putI rfl hT2 ho0 rfl (fun w3 hT3 => ?_)
  refine s_aload rfl rfl ?_
  refine s_const rfl ?_
  refine s_putI rfl hT3 ho0 rfl (fun w4 hT4 => ?_)
  refine s_aload rfl rfl ?_
  refine s_const rfl ?_
  refine s_putI rfl hT4 ho0 rfl (fun w5 hT5 => ?_)
  refine s_aload rfl rfl ?_
  refine s_const rfl ?_
  refine s_putI rfl hT5 ho0 rfl (fun w6 hT6 => ?_)
  refine s_aload rfl rfl ?_
  refine s_const rfl ?_
  refine s_putI rfl hT6 ho0 rfl (fun w7 hT7 => ?_)
  refine s_const rfl ?_
  refine s_istoreF [(0, .ref o0), (1, .int 0)] rfl (subl_c rfl (subl_c rfl (subl_n))) ?_
  let lvL9 : Int32 → List (Nat × Value) := fun s14 => [(0, .ref o0), (1, .int s14)]
  refine s_loop lvL9 (subl_c rfl (subl_c rfl (subl_n))) hT7 (fun v1_8 w10 hT10 => ?_)
  show sp _ (PP _ _ _ (37, [(0, .ref o0), (1, .int v1_8)], [], w10))
  refine s_iload rfl rfl ?_
  refine s_const rfl ?_
  refine sp_ite (fun h11 => ?_) (fun h11 => ?_)
  · refine s_ic0 rfl (zc_ge0 h11) ?_
    refine s_aload rfl rfl ?_
    refine s_getF rfl hT10 ho0 rfl ?_
    refine s_iload rfl rfl ?_
    refine s_const rfl ?_
    refine s_zast rfl hT10 (of_1_14 ho0) rfl (fun w12 hT12 => ?_)
    refine s_iincF (fun v1_13 => [(0, .ref o0), (1, .int v1_13)]) rfl rfl (fun _ => subl_c rfl (subl_c rfl (subl_n))) (fun v1_13 => ?_)
    refine s_goto rfl ?_
    exact s_back (lvL := lvL9) (s' := v1_13) (subl_c rfl (subl_c rfl (subl_n))) hT12 (fun _ _ h => h)
  · refine s_ic1 rfl (zc_ge1 h11) ?_
    exact s_retV rfl rfl hT10 (fun _ _ h => h)
/-- java/lang/Math.min(II)I -/
def sh_19 (p0 : Int32) (p1 : Int32) (w : Wd) : Option (Int32 × Wd) := lt (if p0 ≤ p1 then p0 else p1 : Int32) (fun z1 => some (z1, w))
set_option maxRecDepth 20000 in
set_option maxHeartbeats 4000000 in
theorem ev_19 {d : Nat} (hd : 1 ≤ d) {p0 : Int32} {p1 : Int32} {w : Wd} (hT : TY w)  : sp (sh_19 p0 p1 w) (fun r w' => TY w' ∧ Ev d 19 [.int p0, .int p1] w (cvI r) w') := by
  obtain ⟨d, rfl⟩ : ∃ d', d = d' + 1 := ⟨d - 1, by omega⟩
  refine ev_of (M := M19) zin_19 rfl (by decide) rfl (Nat.le_of_ble_eq_true rfl) (Or.inl rfl) hT ?_
  show sp _ (PP (Ev d) M19 (KR cvI) (0, [(0, .int p0), (1, .int p1)], [], w))
  unfold sh_19
  refine s_iload rfl rfl ?_
  refine s_iload rfl rfl ?_
  refine sp_lt (fun z1 hz1 => ?_)
  refine s_dia (10, [(0, .int p0), (1, .int p1)], [.int z1], w) ?_ (fun hk2 => ?_)
  · exact s_retI rfl rfl hT (fun _ _ h => h)
  · by_cases h3 : p0 ≤ p1
    · refine s_ic0 rfl (zc_gt0 h3) ?_
      refine s_iload rfl rfl ?_
      refine s_goto rfl ?_
      refine s_cong ?_ hk2
      (rw [hz1, if_pos h3])
    · refine s_ic1 rfl (zc_gt1 h3) ?_
      refine s_iload rfl rfl ?_
      refine s_cong ?_ hk2
      (rw [hz1, if_neg h3])
/-- RugReader$Tape.byteAt(I)I -/
def sh_21 (o0 : Nat) (p1 : Int32) (w : Wd) : Option (Int32 × Wd) := if 0 ≤ p1 then (if p1 < wI w o0 1 then (if p1 < 940 then (gd (ib p1 940) (some (wI w (o0 + 1) (ix p1), w))) else (some ((-1), w))) else (some ((-1), w))) else (some ((-1), w))
set_option maxRecDepth 20000 in
set_option maxHeartbeats 4000000 in
theorem ev_21 {d : Nat} (hd : 1 ≤ d) {o0 : Nat} {p1 : Int32} {w : Wd} (hT : TY w) (ho0 : ist o0 7) : sp (sh_21 o0 p1 w) (fun r w' => TY w' ∧ Ev d 21 [.ref o0, .int p1] w (cvI r) w') := by
  obtain ⟨d, rfl⟩ : ∃ d', d = d' + 1 := ⟨d - 1, by omega⟩
  refine ev_of (M := M21) zin_21 rfl (by decide) rfl (Nat.le_of_ble_eq_true rfl) (Or.inr ⟨o0, _, rfl, ho0⟩) hT ?_
  show sp _ (PP (Ev d) M21 (KR cvI) (0, [(0, .ref o0), (1, .int p1)], [], w))
  unfold sh_21
  refine s_iload rfl rfl ?_
  refine sp_ite (fun h1 => ?_) (fun h1 => ?_)
  · refine s_if0 rfl (zc_lt0 h1) ?_
    refine s_iload rfl rfl ?_
    refine s_aload rfl rfl ?_
    refine s_getI rfl hT ho0 ?_
    refine sp_ite (fun h2 => ?_) (fun h2 => ?_)
    · refine s_ic0 rfl (zc_ge0 h2) ?_
      refine s_iload rfl rfl ?_
      refine s_const rfl ?_
      refine sp_ite (fun h3 => ?_) (fun h3 => ?_)
      · refine s_ic0 rfl (zc_ge0 h3) ?_
        refine s_aload rfl rfl ?_
        refine s_getF rfl hT ho0 rfl ?_
        refine s_iload rfl rfl ?_
        refine s_iald rfl hT (of_7_0 ho0) ?_
        refine s_goto rfl ?_
        exact s_retI rfl rfl hT (fun _ _ h => h)
      · refine s_ic1 rfl (zc_ge1 h3) ?_
        refine s_const rfl ?_
        exact s_retI rfl rfl hT (fun _ _ h => h)
    · refine s_ic1 rfl (zc_ge1 h2) ?_
      refine s_const rfl ?_
      exact s_retI rfl rfl hT (fun _ _ h => h)
  · refine s_if1 rfl (zc_lt1 h1) ?_
    refine s_const rfl ?_
    exact s_retI rfl rfl hT (fun _ _ h => h)
/-- RugReader$Tape.isLetter(I)Z -/
def sh_23 (p0 : Int32) (w : Wd) : Option (Bool × Wd) := lt (if 97 ≤ p0 then (if p0 ≤ 122 then true else false) else false : Bool) (fun z1 => some (z1, w))
set_option maxRecDepth 20000 in
set_option maxHeartbeats 4000000 in
theorem ev_23 {d : Nat} (hd : 1 ≤ d) {p0 : Int32} {w : Wd} (hT : TY w)  : sp (sh_23 p0 w) (fun r w' => TY w' ∧ Ev d 23 [.int p0] w (cvZ r) w') := by
  obtain ⟨d, rfl⟩ : ∃ d', d = d' + 1 := ⟨d - 1, by omega⟩
  refine ev_of (M := M23) zin_23 rfl (by decide) rfl (Nat.le_of_ble_eq_true rfl) (Or.inl rfl) hT ?_
  show sp _ (PP (Ev d) M23 (KR cvZ) (0, [(0, .int p0)], [], w))
  unfold sh_23
  refine s_iload rfl rfl ?_
  refine s_const rfl ?_
  refine sp_lt (fun z1 hz1 => ?_)
  refine s_dia (17, [(0, .int p0)], [.int (bi z1)], w) ?_ (fun hk2 => ?_)
  · exact s_retZ (z := z1) rfl rfl hT (fun _ _ h => h)
  · by_cases h3 : 97 ≤ p0
    · refine s_ic0 rfl (zc_lt0 h3) ?_
      refine s_iload rfl rfl ?_
      refine s_const rfl ?_
      by_cases h4 : p0 ≤ 122
      · refine s_ic0 rfl (zc_gt0 h4) ?_
        refine s_const rfl ?_
        refine s_goto rfl ?_
        refine s_cong ?_ hk2
        (rw [hz1, if_pos h3, if_pos h4]; rfl)
      · refine s_ic1 rfl (zc_gt1 h4) ?_
        refine s_const rfl ?_
        refine s_cong ?_ hk2
        (rw [hz1, if_pos h3, if_neg h4]; rfl)
    · refine s_ic1 rfl (zc_lt1 h3) ?_
      refine s_const rfl ?_
      refine s_cong ?_ hk2
      (rw [hz1, if_neg h3]; rfl)
/-- RugReader$Tape.goesOn(I)Z -/
def sh_22 (p0 : Int32) (w : Wd) : Option (Bool × Wd) := cl (sh_23 p0 w) (fun r2 w1 => lt (if r2 = true then true else (if 48 ≤ p0 then (if p0 ≤ 57 then true else false) else false) : Bool) (fun z3 => some (z3, w1)))
set_option maxRecDepth 20000 in
set_option maxHeartbeats 4000000 in
theorem ev_22 {d : Nat} (hd : 2 ≤ d) {p0 : Int32} {w : Wd} (hT : TY w)  : sp (sh_22 p0 w) (fun r w' => TY w' ∧ Ev d 22 [.int p0] w (cvZ r) w') := by
  obtain ⟨d, rfl⟩ : ∃ d', d = d' + 1 := ⟨d - 1, by omega⟩
  refine ev_of (M := M22) zin_22 rfl (by decide) rfl (Nat.le_of_ble_eq_true rfl) (Or.inl rfl) hT ?_
  show sp _ (PP (Ev d) M22 (KR cvZ) (0, [(0, .int p0)], [], w))
  unfold sh_22
  refine s_iload rfl rfl ?_
  refine s_callZ [.int p0] [] rfl rfl (Nat.le_of_ble_eq_true rfl) (ev_23 (d := d) (by omega) hT ) (fun r2 w1 hT1 => ?_)
  refine sp_lt (fun z3 hz3 => ?_)
  refine s_dia (24, [(0, .int p0)], [.int (bi z3)], w1) ?_ (fun hk4 => ?_)
  · exact s_retZ (z := z3) rfl rfl hT1 (fun _ _ h => h)
  · by_cases h5 : r2 = true
    · refine s_if1 rfl (zb_ne1 h5) ?_
      refine s_const rfl ?_
      refine s_goto rfl ?_
      refine s_cong ?_ hk4
      (rw [hz3, if_pos h5]; rfl)
    · refine s_if0 rfl (zb_ne0 h5) ?_
      refine s_iload rfl rfl ?_
      refine s_const rfl ?_
      by_cases h6 : 48 ≤ p0
      · refine s_ic0 rfl (zc_lt0 h6) ?_
        refine s_iload rfl rfl ?_
        refine s_const rfl ?_
        by_cases h7 : p0 ≤ 57
        · refine s_ic0 rfl (zc_gt0 h7) ?_
          refine s_const rfl ?_
          refine s_goto rfl ?_
          refine s_cong ?_ hk4
          (rw [hz3, if_neg h5, if_pos h6, if_pos h7]; rfl)
        · refine s_ic1 rfl (zc_gt1 h7) ?_
          refine s_const rfl ?_
          refine s_cong ?_ hk4
          (rw [hz3, if_neg h5, if_pos h6, if_neg h7]; rfl)
      · refine s_ic1 rfl (zc_lt1 h6) ?_
        refine s_const rfl ?_
        refine s_cong ?_ hk4
        (rw [hz3, if_neg h5, if_neg h6]; rfl)
/-- RugReader$Tape.endOfRun(I)I -/
def sh_24 (o0 : Nat) (p1 : Int32) (w : Wd) : Option (Int32 × Wd) := lt (p1 + 1 : Int32) (fun v2_1 => itM (fun (v2_2 : Int32) (w4 : Wd) => if v2_2 < wI w4 o0 1 then (cl (sh_21 o0 v2_2 w4) (fun r7 w6 => cl (sh_22 r7 w6) (fun r9 w8 => if r9 = true then (lt (v2_2 + 1 : Int32) (fun v2_11 => some (.inl v2_11, w8))) else (some (.inr (v2_2), w8))))) else (some (.inr (v2_2), w4))) FU v2_1 w)
set_option maxRecDepth 20000 in
set_option maxHeartbeats 4000000 in
theorem ev_24 {d : Nat} (hd : 3 ≤ d) {o0 : Nat} {p1 : Int32} {w : Wd} (hT : TY w) (ho0 : ist o0 7) : sp (sh_24 o0 p1 w) (fun r w' => TY w' ∧ Ev d 24 [.ref o0, .int p1] w (cvI r) w') := by
  obtain ⟨d, rfl⟩ : ∃ d', d = d' + 1 := ⟨d - 1, by omega⟩
  refine ev_of (M := M24) zin_24 rfl (by decide) rfl (Nat.le_of_ble_eq_true rfl) (Or.inr ⟨o0, _, rfl, ho0⟩) hT ?_
  show sp _ (PP (Ev d) M24 (KR cvI) (0, [(0, .ref o0), (1, .int p1)], [], w))
  unfold sh_24
  refine s_iload rfl rfl ?_
  refine s_const rfl ?_
  refine s_bin rfl rfl ?_
  refine s_nmI (fun v2_1 => ?_)
  refine s_istoreF [(0, .ref o0), (2, .int v2_1)] rfl (subl_c rfl (subl_c rfl (subl_n))) ?_
  let lvL3 : Int32 → List (Nat × Value) := fun s12 => [(0, .ref o0), (2, .int s12)]
  refine s_loop lvL3 (subl_c rfl (subl_c rfl (subl_n))) hT (fun v2_2 w4 hT4 => ?_)
  show sp _ (PP _ _ _ (4, [(0, .ref o0), (2, .int v2_2)], [], w4))
  refine s_iload rfl rfl ?_
  refine s_aload rfl rfl ?_
  refine s_getI rfl hT4 ho0 ?_
  refine sp_ite (fun h5 => ?_) (fun h5 => ?_)
  · refine s_ic0 rfl (zc_ge0 h5) ?_
    refine s_aload rfl rfl ?_
    refine s_iload rfl rfl ?_
    refine s_callI [.ref o0, .int v2_2] [] rfl rfl (Nat.le_of_ble_eq_true rfl) (ev_21 (d := d) (by omega) hT4 ho0) (fun r7 w6 hT6 => ?_)
    refine s_callZ [.int r7] [] rfl rfl (Nat.le_of_ble_eq_true rfl) (ev_22 (d := d) (by omega) hT6 ) (fun r9 w8 hT8 => ?_)
    refine sp_ite (fun h10 => ?_) (fun h10 => ?_)
    · refine s_if0 rfl (zb_eq0 h10) ?_
      refine s_iincF (fun v2_11 => [(0, .ref o0), (2, .int v2_11)]) rfl rfl (fun _ => subl_c rfl (subl_c rfl (subl_n))) (fun v2_11 => ?_)
      refine s_goto rfl ?_
      exact s_back (lvL := lvL3) (s' := v2_11) (subl_c rfl (subl_c rfl (subl_n))) hT8 (fun _ _ h => h)
    · refine s_if1 rfl (zb_eq1 h10) ?_
      refine s_iload rfl rfl ?_
      exact s_retI rfl rfl hT8 (fun _ _ h => h)
  · refine s_ic1 rfl (zc_ge1 h5) ?_
    refine s_iload rfl rfl ?_
    exact s_retI rfl rfl hT4 (fun _ _ h => h)
/-- RugReader$Word.longer(JI)J -/
def sh_26 (p0 : Int64) (p2 : Int32) (w : Wd) : Option (Int64 × Wd) := some ((p0 * 32) + (((p2 - 97) + 1).toInt64), w)
set_option maxRecDepth 20000 in
set_option maxHeartbeats 4000000 in
theorem ev_26 {d : Nat} (hd : 1 ≤ d) {p0 : Int64} {p2 : Int32} {w : Wd} (hT : TY w)  : sp (sh_26 p0 p2 w) (fun r w' => TY w' ∧ Ev d 26 [.long p0, .int p2] w (cvL r) w') := by
  obtain ⟨d, rfl⟩ : ∃ d', d = d' + 1 := ⟨d - 1, by omega⟩
  refine ev_of (M := M26) zin_26 rfl (by decide) rfl (Nat.le_of_ble_eq_true rfl) (Or.inl rfl) hT ?_
  show sp _ (PP (Ev d) M26 (KR cvL) (0, [(0, .long p0), (2, .int p2)], [], w))
  unfold sh_26
  refine s_lload rfl rfl ?_
  refine s_lconst (x := 32) rfl rfl ?_
  refine s_lbin rfl rfl ?_
  refine s_iload rfl rfl ?_
  refine s_const rfl ?_
  refine s_bin rfl rfl ?_
  refine s_const rfl ?_
  refine s_bin rfl rfl ?_
  refine s_i2l rfl ?_
  refine s_lbin rfl rfl ?_
  exact s_retL rfl rfl hT (fun _ _ h => h)
/-- RugReader$Tape.wordOf(J)I -/
def sh_27 (p0 : Int64) (w : Wd) : Option (Int32 × Wd) := itM (fun (v2_1 : Int32) (w3 : Wd) => if v2_1 < 20 then (gd (ib v2_1 20) (gd (decide (1010 ≤ 1010 + ix v2_1 ∧ 1010 + ix v2_1 < 1030)) (if zwc (1010 + ix v2_1 - 1010) = p0 then (some (.inr (v2_1), w3)) else (lt (v2_1 + 1 : Int32) (fun v2_6 => some (.inl v2_6, w3)))))) else (some (.inr ((-1)), w3))) FU 0 w
set_option maxRecDepth 20000 in
set_option maxHeartbeats 4000000 in
theorem ev_27 {d : Nat} (hd : 1 ≤ d) {p0 : Int64} {w : Wd} (hT : TY w)  : sp (sh_27 p0 w) (fun r w' => TY w' ∧ Ev d 27 [.long p0] w (cvI r) w') := by
  obtain ⟨d, rfl⟩ : ∃ d', d = d' + 1 := ⟨d - 1, by omega⟩
  refine ev_of (M := M27) zin_27 rfl (by decide) rfl (Nat.le_of_ble_eq_true rfl) (Or.inl rfl) hT ?_
  show sp _ (PP (Ev d) M27 (KR cvI) (0, [(0, .long p0)], [], w))
  unfold sh_27
  refine s_const rfl ?_
  refine s_istoreF [(0, .long p0), (2, .int 0)] rfl (subl_c rfl (subl_c rfl (subl_n))) ?_
  let lvL2 : Int32 → List (Nat × Value) := fun s7 => [(0, .long p0), (2, .int s7)]
  refine s_loop lvL2 (subl_c rfl (subl_c rfl (subl_n))) hT (fun v2_1 w3 hT3 => ?_)
  show sp _ (PP _ _ _ (2, [(0, .long p0), (2, .int v2_1)], [], w3))
  refine s_iload rfl rfl ?_
  refine s_static rfl ?_
  refine s_lenW rfl ?_
  refine sp_ite (fun h4 => ?_) (fun h4 => ?_)
  · refine s_ic0 rfl (zc_ge0 h4) ?_
    refine s_static rfl ?_
    refine s_iload rfl rfl ?_
    refine s_aaldW rfl ?_
    refine s_astoreF [(0, .long p0), (2, .int v2_1), (3, .ref (1010 + ix v2_1))] rfl (subl_c rfl (subl_c rfl (subl_c rfl (subl_n)))) ?_
    refine s_aload rfl rfl ?_
    refine s_null0 rfl ?_
    refine s_aload rfl rfl ?_
    refine s_getW0 rfl ?_
    refine s_lload rfl rfl ?_
    refine s_lcmp rfl ?_
    refine sp_ite (fun h5 => ?_) (fun h5 => ?_)
    · refine s_if0 rfl (zl_ne0 h5) ?_
      refine s_iload rfl rfl ?_
      exact s_retI rfl rfl hT3 (fun _ _ h => h)
    · refine s_if1 rfl (zl_ne1 h5) ?_
      refine s_iincF (fun v2_6 => [(0, .long p0), (2, .int v2_6)]) rfl rfl (fun _ => subl_c rfl (subl_c rfl (subl_n))) (fun v2_6 => ?_)
      refine s_goto rfl ?_
      exact s_back (lvL := lvL2) (s' := v2_6) (subl_c rfl (subl_c rfl (subl_n))) hT3 (fun _ _ h => h)
  · refine s_ic1 rfl (zc_ge1 h4) ?_
    refine s_const rfl ?_
    exact s_retI rfl rfl hT3 (fun _ _ h => h)
/-- RugReader$Tape.putToken(IIJ)V -/
def sh_28 (o0 : Nat) (p1 : Int32) (p2 : Int32) (p3 : Int64) (w : Wd) : Option (Unit × Wd) := if 0 ≤ wI w o0 5 then (if wI w o0 5 ≤ 940 then (gd (ib (wI w o0 5) 941) (stI w (o0 + 2) (ix (wI w o0 5)) p1 (fun w3 => gd (ib (wI w3 o0 5) 941) (stI w3 (o0 + 3) (ix (wI w3 o0 5)) p2 (fun w4 => gd (ib (wI w4 o0 5) 941) (stL w4 (o0 + 4) (ix (wI w4 o0 5)) p3 (fun w5 => stI w5 o0 5 ((wI w5 o0 5) + 1) (fun w6 => some ((), w6))))))))) else (some ((), w))) else (some ((), w))
set_option maxRecDepth 20000 in
set_option maxHeartbeats 4000000 in
theorem ev_28 {d : Nat} (hd : 1 ≤ d) {o0 : Nat} {p1 : Int32} {p2 : Int32} {p3 : Int64} {w : Wd} (hT : TY w) (ho0 : ist o0 7) : sp (sh_28 o0 p1 p2 p3 w) (fun r w' => TY w' ∧ Ev d 28 [.ref o0, .int p1, .int p2, .long p3] w (cvV r) w') := by
  obtain ⟨d, rfl⟩ : ∃ d', d = d' + 1 := ⟨d - 1, by omega⟩
  refine ev_of (M := M28) zin_28 rfl (by decide) rfl (Nat.le_of_ble_eq_true rfl) (Or.inr ⟨o0, _, rfl, ho0⟩) hT ?_
  show sp _ (PP (Ev d) M28 (KR cvV) (0, [(0, .ref o0), (1, .int p1), (2, .int p2), (3, .long p3)], [], w))
  unfold sh_28
  refine s_aload rfl rfl ?_
  refine s_getI rfl hT ho0 ?_
  refine sp_ite (fun h1 => ?_) (fun h1 => ?_)
  · refine s_if0 rfl (zc_lt0 h1) ?_
    refine s_aload rfl rfl ?_
    refine s_getI rfl hT ho0 ?_
    refine s_const rfl ?_
    refine sp_ite (fun h2 => ?_) (fun h2 => ?_)
    · refine s_ic0 rfl (zc_gt0 h2) ?_
      refine s_aload rfl rfl ?_
      refine s_getF rfl hT ho0 rfl ?_
      refine s_aload rfl rfl ?_
      refine s_getI rfl hT ho0 ?_
      refine s_iload rfl rfl ?_
      refine s_iast rfl hT (of_7_7 ho0) (fun w3 hT3 => ?_)
      refine s_aload rfl rfl ?_
      refine s_getF rfl hT3 ho0 rfl ?_
      refine s_aload rfl rfl ?_
      refine s_getI rfl hT3 ho0 ?_
      refine s_iload rfl rfl ?_
      refine s_iast rfl hT3 (of_7_8 ho0) (fun w4 hT4 => ?_)
      refine s_aload rfl rfl ?_
      refine s_getF rfl hT4 ho0 rfl ?_
      refine s_aload rfl rfl ?_
      refine s_getI rfl hT4 ho0 ?_
      refine s_lload rfl rfl ?_
      refine s_last rfl hT4 (of_7_9 ho0) (fun w5 hT5 => ?_)
      refine s_aload rfl rfl ?_
      refine s_dup rfl rfl ?_
      refine s_getI rfl hT5 ho0 ?_
      refine s_const rfl ?_
      refine s_bin rfl rfl ?_
      refine s_putI rfl hT5 ho0 rfl (fun w6 hT6 => ?_)
      exact s_retV rfl rfl hT6 (fun _ _ h => h)
    · refine s_ic1 rfl (zc_gt1 h2) ?_
      exact s_retV rfl rfl hT (fun _ _ h => h)
  · refine s_if1 rfl (zc_lt1 h1) ?_
    exact s_retV rfl rfl hT (fun _ _ h => h)
/-- RugReader$Tape.putRun(II)V -/
def sh_25 (o0 : Nat) (p1 : Int32) (p2 : Int32) (w : Wd) : Option (Unit × Wd) := lt (p2 - p1 : Int32) (fun v3_1 => itM (fun (s41 : Int32 × Int64 × Int32 × Int32) (w7 : Wd) => match s41 with | (v4_2, v5_3, v7_4, v8_5) => if v8_5 < p2 then (cl (sh_21 o0 v8_5 w7) (fun r10 w9 => cl (sh_23 r10 w9) (fun r12 w11 => if r12 = true then (lt (v4_2 + 1 : Int32) (fun v4_14 => cl (sh_26 v5_3 r10 w11) (fun r16 w15 => lt (v8_5 + 1 : Int32) (fun v8_17 => some (.inl (v4_14, r16, v7_4, v8_17), w15))))) else (lt ((v7_4 * 10) + (r10 - 48) : Int32) (fun v7_18 => lt (v8_5 + 1 : Int32) (fun v8_19 => some (.inl (v4_2, v5_3, v7_18, v8_19), w11))))))) else (jn (fun (s40 : Unit) (w21 : Wd) => lt (if v4_2 = 0 then (if v3_1 ≤ 3 then 3 else 5) else 5 : Int32) (fun z22 => cl (sh_28 o0 p1 z22 (v7_4.toInt64) w21) (fun _ w23 => some (.inr (()), w23)))) (fun j20 => if v4_2 = v3_1 then (if v3_1 ≤ 7 then (cl (sh_27 v5_3 w7) (fun r31 w30 => lt (if r31 = (-1) then 1 else 2 : Int32) (fun z32 => if r31 = (-1) then (cl (sh_28 o0 p1 z32 v5_3 w30) (fun _ w34 => some (.inr (()), w34))) else (cl (sh_28 o0 p1 z32 (r31.toInt64) w30) (fun _ w36 => some (.inr (()), w36)))))) else (j20 () w7)) else (j20 () w7)))) FU (0, 0, 0, p1) w)
set_option maxRecDepth 20000 in
set_option maxHeartbeats 4000000 in
theorem ev_25 {d : Nat} (hd : 2 ≤ d) {o0 : Nat} {p1 : Int32} {p2 : Int32} {w : Wd} (hT : TY w) (ho0 : ist o0 7) : sp (sh_25 o0 p1 p2 w) (fun r w' => TY w' ∧ Ev d 25 [.ref o0, .int p1, .int p2] w (cvV r) w') := by
  obtain ⟨d, rfl⟩ : ∃ d', d = d' + 1 := ⟨d - 1, by omega⟩
  refine ev_of (M := M25) zin_25 rfl (by decide) rfl (Nat.le_of_ble_eq_true rfl) (Or.inr ⟨o0, _, rfl, ho0⟩) hT ?_
  show sp _ (PP (Ev d) M25 (KR cvV) (0, [(0, .ref o0), (1, .int p1), (2, .int p2)], [], w))
  unfold sh_25
  refine s_iload rfl rfl ?_
  refine s_iload rfl rfl ?_
  refine s_bin rfl rfl ?_
  refine s_nmI (fun v3_1 => ?_)
  refine s_istoreF [(0, .ref o0), (1, .int p1), (2, .int p2), (3, .int v3_1)] rfl (subl_c rfl (subl_c rfl (subl_c rfl (subl_c rfl (subl_n))))) ?_
  refine s_const rfl ?_
  refine s_istoreF [(0, .ref o0), (1, .int p1), (2, .int p2), (3, .int v3_1), (4, .int 0)] rfl (subl_c rfl (subl_c rfl (subl_c rfl (subl_c rfl (subl_c rfl (subl_n)))))) ?_
  refine s_lconst (x := 0) rfl rfl ?_
  refine s_lstoreF [(0, .ref o0), (1, .int p1), (2, .int p2), (3, .int v3_1), (4, .int 0), (5, .long 0)] rfl (subl_c rfl (subl_c rfl (subl_c rfl (subl_c rfl (subl_c rfl (subl_c rfl (subl_n))))))) ?_
  refine s_const rfl ?_
  refine s_istoreF [(0, .ref o0), (1, .int p1), (2, .int p2), (3, .int v3_1), (4, .int 0), (5, .long 0), (7, .int 0)] rfl (subl_c rfl (subl_c rfl (subl_c rfl (subl_c rfl (subl_c rfl (subl_c rfl (subl_c rfl (subl_n)))))))) ?_
  refine s_iload rfl rfl ?_
  refine s_istoreF [(0, .ref o0), (1, .int p1), (2, .int p2), (3, .int v3_1), (4, .int 0), (5, .long 0), (7, .int 0), (8, .int p1)] rfl (subl_c rfl (subl_c rfl (subl_c rfl (subl_c rfl (subl_c rfl (subl_c rfl (subl_c rfl (subl_c rfl (subl_n))))))))) ?_
  let lvL6 : Int32 × Int64 × Int32 × Int32 → List (Nat × Value) := fun s41 => [(0, .ref o0), (1, .int p1), (2, .int p2), (3, .int v3_1), (4, .int (s41.1)), (5, .long (s41.2.1)), (7, .int (s41.2.2.1)), (8, .int (s41.2.2.2))]
  refine s_loop lvL6 (subl_c rfl (subl_c rfl (subl_c rfl (subl_c rfl (subl_c rfl (subl_c rfl (subl_c rfl (subl_c rfl (subl_n))))))))) hT (fun s41 w7 hT7 => ?_)
  obtain ⟨v4_2, v5_3, v7_4, v8_5⟩ := s41
  show sp _ (PP _ _ _ (16, [(0, .ref o0), (1, .int p1), (2, .int p2), (3, .int v3_1), (4, .int v4_2), (5, .long v5_3), (7, .int v7_4), (8, .int v8_5)], [], w7))
  refine s_iload rfl rfl ?_
  refine s_iload rfl rfl ?_
  refine sp_ite (fun h8 => ?_) (fun h8 => ?_)
  · refine s_ic0 rfl (zc_ge0 h8) ?_
    refine s_aload rfl rfl ?_
    refine s_iload rfl rfl ?_
    refine s_callI [.ref o0, .int v8_5] [] rfl rfl (Nat.le_of_ble_eq_true rfl) (ev_21 (d := d) (by omega) hT7 ho0) (fun r10 w9 hT9 => ?_)
    refine s_istoreF [(0, .ref o0), (1, .int p1), (2, .int p2), (3, .int v3_1), (4, .int v4_2), (5, .long v5_3), (7, .int v7_4), (8, .int v8_5), (9, .int r10)] rfl (subl_c rfl (subl_c rfl (subl_c rfl (subl_c rfl (subl_c rfl (subl_c rfl (subl_c rfl (subl_c rfl (subl_c rfl (subl_n)))))))))) ?_
    refine s_iload rfl rfl ?_
    refine s_callZ [.int r10] [] rfl rfl (Nat.le_of_ble_eq_true rfl) (ev_23 (d := d) (by omega) hT9 ) (fun r12 w11 hT11 => ?_)
    refine sp_ite (fun h13 => ?_) (fun h13 => ?_)
    · refine s_if0 rfl (zb_eq0 h13) ?_
      refine s_iincF (fun v4_14 => [(0, .ref o0), (1, .int p1), (2, .int p2), (3, .int v3_1), (4, .int v4_14), (5, .long v5_3), (7, .int v7_4), (8, .int v8_5), (9, .int r10)]) rfl rfl (fun _ => subl_c rfl (subl_c rfl (subl_c rfl (subl_c rfl (subl_c rfl (subl_c rfl (subl_c rfl (subl_c rfl (subl_c rfl (subl_n)))))))))) (fun v4_14 => ?_)
      refine s_lload rfl rfl ?_
      refine s_iload rfl rfl ?_
      refine s_callL [.long v5_3, .int r10] [] rfl rfl (Nat.le_of_ble_eq_true rfl) (ev_26 (d := d) (by omega) hT11 ) (fun r16 w15 hT15 => ?_)
      refine s_lstoreF [(0, .ref o0), (1, .int p1), (2, .int p2), (3, .int v3_1), (4, .int v4_14), (5, .long r16), (7, .int v7_4), (8, .int v8_5)] rfl (subl_c rfl (subl_c rfl (subl_c rfl (subl_c rfl (subl_c rfl (subl_c rfl (subl_c rfl (subl_c rfl (subl_n))))))))) ?_
      refine s_goto rfl ?_
      refine s_iincF (fun v8_17 => [(0, .ref o0), (1, .int p1), (2, .int p2), (3, .int v3_1), (4, .int v4_14), (5, .long r16), (7, .int v7_4), (8, .int v8_17)]) rfl rfl (fun _ => subl_c rfl (subl_c rfl (subl_c rfl (subl_c rfl (subl_c rfl (subl_c rfl (subl_c rfl (subl_c rfl (subl_n))))))))) (fun v8_17 => ?_)
      refine s_goto rfl ?_
      exact s_back (lvL := lvL6) (s' := (v4_14, r16, v7_4, v8_17)) (subl_c rfl (subl_c rfl (subl_c rfl (subl_c rfl (subl_c rfl (subl_c rfl (subl_c rfl (subl_c rfl (subl_n))))))))) hT15 (fun _ _ h => h)
    · refine s_if1 rfl (zb_eq1 h13) ?_
      refine s_iload rfl rfl ?_
      refine s_const rfl ?_
      refine s_bin rfl rfl ?_
      refine s_iload rfl rfl ?_
      refine s_const rfl ?_
      refine s_bin rfl rfl ?_
      refine s_bin rfl rfl ?_
      refine s_nmI (fun v7_18 => ?_)
      refine s_istoreF [(0, .ref o0), (1, .int p1), (2, .int p2), (3, .int v3_1), (4, .int v4_2), (5, .long v5_3), (7, .int v7_18), (8, .int v8_5)] rfl (subl_c rfl (subl_c rfl (subl_c rfl (subl_c rfl (subl_c rfl (subl_c rfl (subl_c rfl (subl_c rfl (subl_n))))))))) ?_
      refine s_iincF (fun v8_19 => [(0, .ref o0), (1, .int p1), (2, .int p2), (3, .int v3_1), (4, .int v4_2), (5, .long v5_3), (7, .int v7_18), (8, .int v8_19)]) rfl rfl (fun _ => subl_c rfl (subl_c rfl (subl_c rfl (subl_c rfl (subl_c rfl (subl_c rfl (subl_c rfl (subl_c rfl (subl_n))))))))) (fun v8_19 => ?_)
      refine s_goto rfl ?_
      exact s_back (lvL := lvL6) (s' := (v4_2, v5_3, v7_18, v8_19)) (subl_c rfl (subl_c rfl (subl_c rfl (subl_c rfl (subl_c rfl (subl_c rfl (subl_c rfl (subl_c rfl (subl_n))))))))) hT11 (fun _ _ h => h)
  · refine s_ic1 rfl (zc_ge1 h8) ?_
    refine s_iload rfl rfl ?_
    refine s_iload rfl rfl ?_
    refine s_jnP (fun (s40 : Unit) w => (124, [(0, .ref o0), (1, .int p1), (3, .int v3_1), (4, .int v4_2), (7, .int v7_4)], [], w)) (fun s40 w21 hT21 => ?_) (fun j20 hj20 => ?_)
    · show sp _ (PP _ _ _ (124, [(0, .ref o0), (1, .int p1), (3, .int v3_1), (4, .int v4_2), (7, .int v7_4)], [], w21))
      refine s_aload rfl rfl ?_
      refine s_iload rfl rfl ?_
      refine s_iload rfl rfl ?_
      refine sp_lt (fun z22 hz22 => ?_)
      refine s_dia (141, [(0, .ref o0), (1, .int p1), (3, .int v3_1), (4, .int v4_2), (7, .int v7_4)], [.int z22, .int p1, .ref o0], w21) ?_ (fun hk25 => ?_)
      · refine s_iload rfl rfl ?_
        refine s_i2l rfl ?_
        refine s_callV [.ref o0, .int p1, .int z22, .long (v7_4.toInt64)] [] rfl rfl (Nat.le_of_ble_eq_true rfl) (ev_28 (d := d) (by omega) hT21 ho0) (fun _ w23 hT23 => ?_)
        exact s_retV rfl rfl hT23 (fun _ _ h => h)
      · by_cases h26 : v4_2 = 0
        · refine s_if0 rfl (zc_ne0 h26) ?_
          refine s_iload rfl rfl ?_
          refine s_const rfl ?_
          by_cases h27 : v3_1 ≤ 3
          · refine s_ic0 rfl (zc_gt0 h27) ?_
            refine s_const rfl ?_
            refine s_goto rfl ?_
            refine s_cong ?_ hk25
            (rw [hz22, if_pos h26, if_pos h27])
          · refine s_ic1 rfl (zc_gt1 h27) ?_
            refine s_const rfl ?_
            refine s_cong ?_ hk25
            (rw [hz22, if_pos h26, if_neg h27])
        · refine s_if1 rfl (zc_ne1 h26) ?_
          refine s_const rfl ?_
          refine s_cong ?_ hk25
          (rw [hz22, if_neg h26])
    · refine sp_ite (fun h28 => ?_) (fun h28 => ?_)
      · refine s_ic0 rfl (zc_ne0 h28) ?_
        refine s_iload rfl rfl ?_
        refine s_const rfl ?_
        refine sp_ite (fun h29 => ?_) (fun h29 => ?_)
        · refine s_ic0 rfl (zc_gt0 h29) ?_
          refine s_lload rfl rfl ?_
          refine s_callI [.long v5_3] [] rfl rfl (Nat.le_of_ble_eq_true rfl) (ev_27 (d := d) (by omega) hT7 ) (fun r31 w30 hT30 => ?_)
          refine s_istoreF [(0, .ref o0), (1, .int p1), (5, .long v5_3), (8, .int r31)] rfl (subl_c rfl (subl_c rfl (subl_c rfl (subl_c rfl (subl_n))))) ?_
          refine s_aload rfl rfl ?_
          refine s_iload rfl rfl ?_
          refine s_iload rfl rfl ?_
          refine s_const rfl ?_
          refine sp_lt (fun z32 hz32 => ?_)
          refine s_dia (104, [(0, .ref o0), (1, .int p1), (5, .long v5_3), (8, .int r31)], [.int z32, .int p1, .ref o0], w30) ?_ (fun hk38 => ?_)
          · refine s_iload rfl rfl ?_
            refine s_const rfl ?_
            refine sp_ite (fun h33 => ?_) (fun h33 => ?_)
            · refine s_ic0 rfl (zc_ne0 h33) ?_
              refine s_lload rfl rfl ?_
              refine s_goto rfl ?_
              refine s_callV [.ref o0, .int p1, .int z32, .long v5_3] [] rfl rfl (Nat.le_of_ble_eq_true rfl) (ev_28 (d := d) (by omega) hT30 ho0) (fun _ w34 hT34 => ?_)
              refine s_goto rfl ?_
              exact s_retV rfl rfl hT34 (fun _ _ h => h)
            · refine s_ic1 rfl (zc_ne1 h33) ?_
              refine s_iload rfl rfl ?_
              refine s_i2l rfl ?_
              refine s_callV [.ref o0, .int p1, .int z32, .long (r31.toInt64)] [] rfl rfl (Nat.le_of_ble_eq_true rfl) (ev_28 (d := d) (by omega) hT30 ho0) (fun _ w36 hT36 => ?_)
              refine s_goto rfl ?_
              exact s_retV rfl rfl hT36 (fun _ _ h => h)
          · by_cases h39 : r31 = (-1)
            · refine s_ic0 rfl (zc_ne0 h39) ?_
              refine s_const rfl ?_
              refine s_goto rfl ?_
              refine s_cong ?_ hk38
              (rw [hz32, if_pos h39])
            · refine s_ic1 rfl (zc_ne1 h39) ?_
              refine s_const rfl ?_
              refine s_cong ?_ hk38
              (rw [hz32, if_neg h39])
        · refine s_ic1 rfl (zc_gt1 h29) ?_
          exact s_fgt _ (subl_c rfl (subl_c rfl (subl_c rfl (subl_c rfl (subl_c rfl (subl_n)))))) (hj20 () w7 hT7)
      · refine s_ic1 rfl (zc_ne1 h28) ?_
        exact s_fgt _ (subl_c rfl (subl_c rfl (subl_c rfl (subl_c rfl (subl_c rfl (subl_n)))))) (hj20 () w7 hT7)
/-- RugReader$Tape.isSign(I)Z -/
def sh_29 (p0 : Int32) (w : Wd) : Option (Bool × Wd) := lt (if p0 = 59 then true else if p0 = 60 then true else if p0 = 61 then true else if p0 = 62 then true else if p0 = 40 then true else (if p0 = 41 then true else false) : Bool) (fun z1 => some (z1, w))
set_option maxRecDepth 20000 in
set_option maxHeartbeats 4000000 in
theorem ev_29 {d : Nat} (hd : 1 ≤ d) {p0 : Int32} {w : Wd} (hT : TY w)  : sp (sh_29 p0 w) (fun r w' => TY w' ∧ Ev d 29 [.int p0] w (cvZ r) w') := by
  obtain ⟨d, rfl⟩ : ∃ d', d = d' + 1 := ⟨d - 1, by omega⟩
  refine ev_of (M := M29) zin_29 rfl (by decide) rfl (Nat.le_of_ble_eq_true rfl) (Or.inl rfl) hT ?_
  show sp _ (PP (Ev d) M29 (KR cvZ) (0, [(0, .int p0)], [], w))
  unfold sh_29
  refine s_iload rfl rfl ?_
  refine s_const rfl ?_
  refine sp_lt (fun z1 hz1 => ?_)
  refine s_dia (41, [(0, .int p0)], [.int (bi z1)], w) ?_ (fun hk2 => ?_)
  · exact s_retZ (z := z1) rfl rfl hT (fun _ _ h => h)
  · by_cases h3 : p0 = 59
    · refine s_ic1 rfl (zc_eq1 h3) ?_
      refine s_const rfl ?_
      refine s_goto rfl ?_
      refine s_cong ?_ hk2
      (rw [hz1, if_pos h3]; rfl)
    · refine s_ic0 rfl (zc_eq0 h3) ?_
      refine s_iload rfl rfl ?_
      refine s_const rfl ?_
      by_cases h4 : p0 = 60
      · refine s_ic1 rfl (zc_eq1 h4) ?_
        refine s_const rfl ?_
        refine s_goto rfl ?_
        refine s_cong ?_ hk2
        (rw [hz1, if_neg h3, if_pos h4]; rfl)
      · refine s_ic0 rfl (zc_eq0 h4) ?_
        refine s_iload rfl rfl ?_
        refine s_const rfl ?_
        by_cases h5 : p0 = 61
        · refine s_ic1 rfl (zc_eq1 h5) ?_
          refine s_const rfl ?_
          refine s_goto rfl ?_
          refine s_cong ?_ hk2
          (rw [hz1, if_neg h3, if_neg h4, if_pos h5]; rfl)
        · refine s_ic0 rfl (zc_eq0 h5) ?_
          refine s_iload rfl rfl ?_
          refine s_const rfl ?_
          by_cases h6 : p0 = 62
          · refine s_ic1 rfl (zc_eq1 h6) ?_
            refine s_const rfl ?_
            refine s_goto rfl ?_
            refine s_cong ?_ hk2
            (rw [hz1, if_neg h3, if_neg h4, if_neg h5, if_pos h6]; rfl)
          · refine s_ic0 rfl (zc_eq0 h6) ?_
            refine s_iload rfl rfl ?_
            refine s_const rfl ?_
            by_cases h7 : p0 = 40
            · refine s_ic1 rfl (zc_eq1 h7) ?_
              refine s_const rfl ?_
              refine s_goto rfl ?_
              refine s_cong ?_ hk2
              (rw [hz1, if_neg h3, if_neg h4, if_neg h5, if_neg h6, if_pos h7]; rfl)
            · refine s_ic0 rfl (zc_eq0 h7) ?_
              refine s_iload rfl rfl ?_
              refine s_const rfl ?_
              by_cases h8 : p0 = 41
              · refine s_ic0 rfl (zc_ne0 h8) ?_
                refine s_const rfl ?_
                refine s_goto rfl ?_
                refine s_cong ?_ hk2
                (rw [hz1, if_neg h3, if_neg h4, if_neg h5, if_neg h6, if_neg h7, if_pos h8]; rfl)
              · refine s_ic1 rfl (zc_ne1 h8) ?_
                refine s_const rfl ?_
                refine s_cong ?_ hk2
                (rw [hz1, if_neg h3, if_neg h4, if_neg h5, if_neg h6, if_neg h7, if_neg h8]; rfl)
/-- RugReader$Tape.tellToken(I)I -/
def sh_20 (o0 : Nat) (p1 : Int32) (w : Wd) : Option (Int32 × Wd) := cl (sh_21 o0 p1 w) (fun r2 w1 => cl (sh_22 r2 w1) (fun r4 w3 => if r4 = true then (cl (sh_24 o0 p1 w3) (fun r7 w6 => cl (sh_25 o0 p1 r7 w6) (fun _ w8 => some (r7, w8)))) else (if r2 = 32 then (some (p1 + 1, w3)) else (if r2 = 10 then (some (p1 + 1, w3)) else (cl (sh_29 r2 w3) (fun r13 w12 => lt (if r13 = true then 4 else 5 : Int32) (fun z14 => cl (sh_28 o0 p1 z14 (r2.toInt64) w12) (fun _ w15 => some (p1 + 1, w15)))))))))
set_option maxRecDepth 20000 in
set_option maxHeartbeats 4000000 in
theorem ev_20 {d : Nat} (hd : 4 ≤ d) {o0 : Nat} {p1 : Int32} {w : Wd} (hT : TY w) (ho0 : ist o0 7) : sp (sh_20 o0 p1 w) (fun r w' => TY w' ∧ Ev d 20 [.ref o0, .int p1] w (cvI r) w') := by
  obtain ⟨d, rfl⟩ : ∃ d', d = d' + 1 := ⟨d - 1, by omega⟩
  refine ev_of (M := M20) zin_20 rfl (by decide) rfl (Nat.le_of_ble_eq_true rfl) (Or.inr ⟨o0, _, rfl, ho0⟩) hT ?_
  show sp _ (PP (Ev d) M20 (KR cvI) (0, [(0, .ref o0), (1, .int p1)], [], w))
  unfold sh_20
  refine s_aload rfl rfl ?_
  refine s_iload rfl rfl ?_
  refine s_callI [.ref o0, .int p1] [] rfl rfl (Nat.le_of_ble_eq_true rfl) (ev_21 (d := d) (by omega) hT ho0) (fun r2 w1 hT1 => ?_)
  refine s_istoreF [(0, .ref o0), (1, .int p1), (2, .int r2)] rfl (subl_c rfl (subl_c rfl (subl_c rfl (subl_n)))) ?_
  refine s_iload rfl rfl ?_
  refine s_callZ [.int r2] [] rfl rfl (Nat.le_of_ble_eq_true rfl) (ev_22 (d := d) (by omega) hT1 ) (fun r4 w3 hT3 => ?_)
  refine sp_ite (fun h5 => ?_) (fun h5 => ?_)
  · refine s_if0 rfl (zb_eq0 h5) ?_
    refine s_aload rfl rfl ?_
    refine s_iload rfl rfl ?_
    refine s_callI [.ref o0, .int p1] [] rfl rfl (Nat.le_of_ble_eq_true rfl) (ev_24 (d := d) (by omega) hT3 ho0) (fun r7 w6 hT6 => ?_)
    refine s_istoreF [(0, .ref o0), (1, .int p1), (3, .int r7)] rfl (subl_c rfl (subl_c rfl (subl_c rfl (subl_n)))) ?_
    refine s_aload rfl rfl ?_
    refine s_iload rfl rfl ?_
    refine s_iload rfl rfl ?_
    refine s_callV [.ref o0, .int p1, .int r7] [] rfl rfl (Nat.le_of_ble_eq_true rfl) (ev_25 (d := d) (by omega) hT6 ho0) (fun _ w8 hT8 => ?_)
    refine s_iload rfl rfl ?_
    exact s_retI rfl rfl hT8 (fun _ _ h => h)
  · refine s_if1 rfl (zb_eq1 h5) ?_
    refine s_iload rfl rfl ?_
    refine s_const rfl ?_
    refine sp_ite (fun h10 => ?_) (fun h10 => ?_)
    · refine s_ic1 rfl (zc_eq1 h10) ?_
      refine s_iload rfl rfl ?_
      refine s_const rfl ?_
      refine s_bin rfl rfl ?_
      exact s_retI rfl rfl hT3 (fun _ _ h => h)
    · refine s_ic0 rfl (zc_eq0 h10) ?_
      refine s_iload rfl rfl ?_
      refine s_const rfl ?_
      refine sp_ite (fun h11 => ?_) (fun h11 => ?_)
      · refine s_ic1 rfl (zc_eq1 h11) ?_
        refine s_iload rfl rfl ?_
        refine s_const rfl ?_
        refine s_bin rfl rfl ?_
        exact s_retI rfl rfl hT3 (fun _ _ h => h)
      · refine s_ic0 rfl (zc_eq0 h11) ?_
        refine s_aload rfl rfl ?_
        refine s_iload rfl rfl ?_
        refine s_iload rfl rfl ?_
        refine s_callZ [.int r2] [.int p1, .ref o0] rfl rfl (Nat.le_of_ble_eq_true rfl) (ev_29 (d := d) (by omega) hT3 ) (fun r13 w12 hT12 => ?_)
        refine sp_lt (fun z14 hz14 => ?_)
        refine s_dia (53, [(0, .ref o0), (1, .int p1), (2, .int r2)], [.int z14, .int p1, .ref o0], w12) ?_ (fun hk17 => ?_)
        · refine s_iload rfl rfl ?_
          refine s_i2l rfl ?_
          refine s_callV [.ref o0, .int p1, .int z14, .long (r2.toInt64)] [] rfl rfl (Nat.le_of_ble_eq_true rfl) (ev_28 (d := d) (by omega) hT12 ho0) (fun _ w15 hT15 => ?_)
          refine s_iload rfl rfl ?_
          refine s_const rfl ?_
          refine s_bin rfl rfl ?_
          exact s_retI rfl rfl hT15 (fun _ _ h => h)
        · by_cases h18 : r13 = true
          · refine s_if0 rfl (zb_eq0 h18) ?_
            refine s_const rfl ?_
            refine s_goto rfl ?_
            refine s_cong ?_ hk17
            (rw [hz14, if_pos h18])
          · refine s_if1 rfl (zb_eq1 h18) ?_
            refine s_const rfl ?_
            refine s_cong ?_ hk17
            (rw [hz14, if_neg h18])
/-- RugReader$Tape.begin(I)V -/
def sh_18 (o0 : Nat) (p1 : Int32) (w : Wd) : Option (Unit × Wd) := cl (sh_19 (wI w o0 1) p1 w) (fun r2 w1 => lt (if p1 < wI w1 o0 1 then true else false : Bool) (fun z3 => stI w1 o0 4 (bi z3) (fun w4 => stI w4 o0 2 0 (fun w5 => stI w5 o0 3 0 (fun w6 => stI w6 o0 6 0 (fun w7 => stI w7 o0 5 0 (fun w8 => itM (fun (s21 : Int32 × Int32) (w12 : Wd) => match s21 with | (v3_9, v4_10) => if v4_10 < r2 then (if v3_9 ≤ v4_10 then (cl (sh_20 o0 v4_10 w12) (fun r16 w15 => lt (v4_10 + 1 : Int32) (fun v4_17 => some (.inl (r16, v4_17), w15)))) else (lt (v4_10 + 1 : Int32) (fun v4_18 => some (.inl (v3_9, v4_18), w12)))) else (cl (sh_28 o0 r2 0 0 w12) (fun _ w19 => some (.inr (()), w19)))) FU (0, 0) w8)))))))
set_option maxRecDepth 20000 in
set_option maxHeartbeats 4000000 in
theorem ev_18 {d : Nat} (hd : 5 ≤ d) {o0 : Nat} {p1 : Int32} {w : Wd} (hT : TY w) (ho0 : ist o0 7) : sp (sh_18 o0 p1 w) (fun r w' => TY w' ∧ Ev d 18 [.ref o0, .int p1] w (cvV r) w') := by
  obtain ⟨d, rfl⟩ : ∃ d', d = d' + 1 := ⟨d - 1, by omega⟩
  refine ev_of (M := M18) zin_18 rfl (by decide) rfl (Nat.le_of_ble_eq_true rfl) (Or.inr ⟨o0, _, rfl, ho0⟩) hT ?_
  show sp _ (PP (Ev d) M18 (KR cvV) (0, [(0, .ref o0), (1, .int p1)], [], w))
  unfold sh_18
  refine s_aload rfl rfl ?_
  refine s_getI rfl hT ho0 ?_
  refine s_iload rfl rfl ?_
  refine s_callI [.int (wI w o0 1), .int p1] [] rfl rfl (Nat.le_of_ble_eq_true rfl) (ev_19 (d := d) (by omega) hT ) (fun r2 w1 hT1 => ?_)
  refine s_istoreF [(0, .ref o0), (1, .int p1), (2, .int r2)] rfl (subl_c rfl (subl_c rfl (subl_c rfl (subl_n)))) ?_
  refine s_aload rfl rfl ?_
  refine s_aload rfl rfl ?_
  refine s_getI rfl hT1 ho0 ?_
  refine s_iload rfl rfl ?_
  refine sp_lt (fun z3 hz3 => ?_)
  refine s_dia (23, [(0, .ref o0), (1, .int p1), (2, .int r2)], [.int (bi z3), .ref o0], w1) ?_ (fun hk22 => ?_)
  · refine s_putZ rfl hT1 ho0 rfl (bi01 _) (fun w4 hT4 => ?_)
    refine s_aload rfl rfl ?_
    refine s_const rfl ?_
    refine s_putI rfl hT4 ho0 rfl (fun w5 hT5 => ?_)
    refine s_aload rfl rfl ?_
    refine s_const rfl ?_
    refine s_putI rfl hT5 ho0 rfl (fun w6 hT6 => ?_)
    refine s_aload rfl rfl ?_
    refine s_const rfl ?_
    refine s_putI rfl hT6 ho0 rfl (fun w7 hT7 => ?_)
    refine s_aload rfl rfl ?_
    refine s_const rfl ?_
    refine s_putI rfl hT7 ho0 rfl (fun w8 hT8 => ?_)
    refine s_const rfl ?_
    refine s_istoreF [(0, .ref o0), (2, .int r2), (3, .int 0)] rfl (subl_c rfl (subl_c rfl (subl_c rfl (subl_n)))) ?_
    refine s_const rfl ?_
    refine s_istoreF [(0, .ref o0), (2, .int r2), (3, .int 0), (4, .int 0)] rfl (subl_c rfl (subl_c rfl (subl_c rfl (subl_c rfl (subl_n))))) ?_
    let lvL11 : Int32 × Int32 → List (Nat × Value) := fun s21 => [(0, .ref o0), (2, .int r2), (3, .int (s21.1)), (4, .int (s21.2))]
    refine s_loop lvL11 (subl_c rfl (subl_c rfl (subl_c rfl (subl_c rfl (subl_n))))) hT8 (fun s21 w12 hT12 => ?_)
    obtain ⟨v3_9, v4_10⟩ := s21
    show sp _ (PP _ _ _ (51, [(0, .ref o0), (2, .int r2), (3, .int v3_9), (4, .int v4_10)], [], w12))
    refine s_iload rfl rfl ?_
    refine s_iload rfl rfl ?_
    refine sp_ite (fun h13 => ?_) (fun h13 => ?_)
    · refine s_ic0 rfl (zc_ge0 h13) ?_
      refine s_iload rfl rfl ?_
      refine s_iload rfl rfl ?_
      refine sp_ite (fun h14 => ?_) (fun h14 => ?_)
      · refine s_ic0 rfl (zc_lt0 h14) ?_
        refine s_aload rfl rfl ?_
        refine s_iload rfl rfl ?_
        refine s_callI [.ref o0, .int v4_10] [] rfl rfl (Nat.le_of_ble_eq_true rfl) (ev_20 (d := d) (by omega) hT12 ho0) (fun r16 w15 hT15 => ?_)
        refine s_istoreF [(0, .ref o0), (2, .int r2), (3, .int r16), (4, .int v4_10)] rfl (subl_c rfl (subl_c rfl (subl_c rfl (subl_c rfl (subl_n))))) ?_
        refine s_iincF (fun v4_17 => [(0, .ref o0), (2, .int r2), (3, .int r16), (4, .int v4_17)]) rfl rfl (fun _ => subl_c rfl (subl_c rfl (subl_c rfl (subl_c rfl (subl_n))))) (fun v4_17 => ?_)
        refine s_goto rfl ?_
        exact s_back (lvL := lvL11) (s' := (r16, v4_17)) (subl_c rfl (subl_c rfl (subl_c rfl (subl_c rfl (subl_n))))) hT15 (fun _ _ h => h)
      · refine s_ic1 rfl (zc_lt1 h14) ?_
        refine s_iincF (fun v4_18 => [(0, .ref o0), (2, .int r2), (3, .int v3_9), (4, .int v4_18)]) rfl rfl (fun _ => subl_c rfl (subl_c rfl (subl_c rfl (subl_c rfl (subl_n))))) (fun v4_18 => ?_)
        refine s_goto rfl ?_
        exact s_back (lvL := lvL11) (s' := (v3_9, v4_18)) (subl_c rfl (subl_c rfl (subl_c rfl (subl_c rfl (subl_n))))) hT12 (fun _ _ h => h)
    · refine s_ic1 rfl (zc_ge1 h13) ?_
      refine s_aload rfl rfl ?_
      refine s_iload rfl rfl ?_
      refine s_const rfl ?_
      refine s_lconst (x := 0) rfl rfl ?_
      refine s_callV [.ref o0, .int r2, .int 0, .long 0] [] rfl rfl (Nat.le_of_ble_eq_true rfl) (ev_28 (d := d) (by omega) hT12 ho0) (fun _ w19 hT19 => ?_)
      exact s_retV rfl rfl hT19 (fun _ _ h => h)
  · by_cases h23 : p1 < wI w1 o0 1
    · refine s_ic0 rfl (zc_le0 h23) ?_
      refine s_const rfl ?_
      refine s_goto rfl ?_
      refine s_cong ?_ hk22
      (rw [hz3, if_pos h23]; rfl)
    · refine s_ic1 rfl (zc_le1 h23) ?_
      refine s_const rfl ?_
      refine s_cong ?_ hk22
      (rw [hz3, if_neg h23]; rfl)
/-- RugReader$Tape.is(I)Z -/
def sh_31 (o0 : Nat) (p1 : Int32) (w : Wd) : Option (Bool × Wd) := if 0 ≤ wI w o0 6 then (if wI w o0 6 ≤ 940 then (gd (ib (wI w o0 6) 941) (if wI w (o0 + 3) (ix (wI w o0 6)) = p1 then (some (true, w)) else (some (false, w)))) else (some (false, w))) else (some (false, w))
set_option maxRecDepth 20000 in
set_option maxHeartbeats 4000000 in
theorem ev_31 {d : Nat} (hd : 1 ≤ d) {o0 : Nat} {p1 : Int32} {w : Wd} (hT : TY w) (ho0 : ist o0 7) : sp (sh_31 o0 p1 w) (fun r w' => TY w' ∧ Ev d 31 [.ref o0, .int p1] w (cvZ r) w') := by
  obtain ⟨d, rfl⟩ : ∃ d', d = d' + 1 := ⟨d - 1, by omega⟩
  refine ev_of (M := M31) zin_31 rfl (by decide) rfl (Nat.le_of_ble_eq_true rfl) (Or.inr ⟨o0, _, rfl, ho0⟩) hT ?_
  show sp _ (PP (Ev d) M31 (KR cvZ) (0, [(0, .ref o0), (1, .int p1)], [], w))
  unfold sh_31
  refine s_aload rfl rfl ?_
  refine s_getI rfl hT ho0 ?_
  refine sp_ite (fun h1 => ?_) (fun h1 => ?_)
  · refine s_if0 rfl (zc_lt0 h1) ?_
    refine s_aload rfl rfl ?_
    refine s_getI rfl hT ho0 ?_
    refine s_const rfl ?_
    refine sp_ite (fun h2 => ?_) (fun h2 => ?_)
    · refine s_ic0 rfl (zc_gt0 h2) ?_
      refine s_aload rfl rfl ?_
      refine s_getF rfl hT ho0 rfl ?_
      refine s_aload rfl rfl ?_
      refine s_getI rfl hT ho0 ?_
      refine s_iald rfl hT (of_7_8 ho0) ?_
      refine s_iload rfl rfl ?_
      refine sp_ite (fun h3 => ?_) (fun h3 => ?_)
      · refine s_ic0 rfl (zc_ne0 h3) ?_
        refine s_const rfl ?_
        refine s_goto rfl ?_
        exact s_retZ (z := true) rfl rfl hT (fun _ _ h => h)
      · refine s_ic1 rfl (zc_ne1 h3) ?_
        refine s_const rfl ?_
        exact s_retZ (z := false) rfl rfl hT (fun _ _ h => h)
    · refine s_ic1 rfl (zc_gt1 h2) ?_
      refine s_const rfl ?_
      exact s_retZ (z := false) rfl rfl hT (fun _ _ h => h)
  · refine s_if1 rfl (zc_lt1 h1) ?_
    refine s_const rfl ?_
    exact s_retZ (z := false) rfl rfl hT (fun _ _ h => h)
/-- RugReader$Tape.atEnd()Z -/
def sh_30 (o0 : Nat) (w : Wd) : Option (Bool × Wd) := cl (sh_31 o0 0 w) (fun r2 w1 => some (r2, w1))
set_option maxRecDepth 20000 in
set_option maxHeartbeats 4000000 in
theorem ev_30 {d : Nat} (hd : 2 ≤ d) {o0 : Nat} {w : Wd} (hT : TY w) (ho0 : ist o0 7) : sp (sh_30 o0 w) (fun r w' => TY w' ∧ Ev d 30 [.ref o0] w (cvZ r) w') := by
  obtain ⟨d, rfl⟩ : ∃ d', d = d' + 1 := ⟨d - 1, by omega⟩
  refine ev_of (M := M30) zin_30 rfl (by decide) rfl (Nat.le_of_ble_eq_true rfl) (Or.inr ⟨o0, _, rfl, ho0⟩) hT ?_
  show sp _ (PP (Ev d) M30 (KR cvZ) (0, [(0, .ref o0)], [], w))
  unfold sh_30
  refine s_aload rfl rfl ?_
  refine s_const rfl ?_
  refine s_callZ [.ref o0, .int 0] [] rfl rfl (Nat.le_of_ble_eq_true rfl) (ev_31 (d := d) (by omega) hT ho0) (fun r2 w1 hT1 => ?_)
  exact s_retZ (z := r2) rfl rfl hT1 (fun _ _ h => h)
/-- RugReader$Tape.valueHere()J -/
def sh_34 (o0 : Nat) (w : Wd) : Option (Int64 × Wd) := if 0 ≤ wI w o0 6 then (if wI w o0 6 ≤ 940 then (gd (ib (wI w o0 6) 941) (some (wL w (o0 + 4) (ix (wI w o0 6)), w))) else (some (0, w))) else (some (0, w))
set_option maxRecDepth 20000 in
set_option maxHeartbeats 4000000 in
theorem ev_34 {d : Nat} (hd : 1 ≤ d) {o0 : Nat} {w : Wd} (hT : TY w) (ho0 : ist o0 7) : sp (sh_34 o0 w) (fun r w' => TY w' ∧ Ev d 34 [.ref o0] w (cvL r) w') := by
  obtain ⟨d, rfl⟩ : ∃ d', d = d' + 1 := ⟨d - 1, by omega⟩
  refine ev_of (M := M34) zin_34 rfl (by decide) rfl (Nat.le_of_ble_eq_true rfl) (Or.inr ⟨o0, _, rfl, ho0⟩) hT ?_
  show sp _ (PP (Ev d) M34 (KR cvL) (0, [(0, .ref o0)], [], w))
  unfold sh_34
  refine s_aload rfl rfl ?_
  refine s_getI rfl hT ho0 ?_
  refine sp_ite (fun h1 => ?_) (fun h1 => ?_)
  · refine s_if0 rfl (zc_lt0 h1) ?_
    refine s_aload rfl rfl ?_
    refine s_getI rfl hT ho0 ?_
    refine s_const rfl ?_
    refine sp_ite (fun h2 => ?_) (fun h2 => ?_)
    · refine s_ic0 rfl (zc_gt0 h2) ?_
      refine s_aload rfl rfl ?_
      refine s_getF rfl hT ho0 rfl ?_
      refine s_aload rfl rfl ?_
      refine s_getI rfl hT ho0 ?_
      refine s_lald rfl hT (of_7_9 ho0) ?_
      refine s_goto rfl ?_
      exact s_retL rfl rfl hT (fun _ _ h => h)
    · refine s_ic1 rfl (zc_gt1 h2) ?_
      refine s_lconst (x := 0) rfl rfl ?_
      exact s_retL rfl rfl hT (fun _ _ h => h)
  · refine s_if1 rfl (zc_lt1 h1) ?_
    refine s_lconst (x := 0) rfl rfl ?_
    exact s_retL rfl rfl hT (fun _ _ h => h)
/-- RugReader$Tape.wordHere()LRugReader$Word; -/
def sh_33 (o0 : Nat) (w : Wd) : Option (Option Nat × Wd) := cl (sh_31 o0 2 w) (fun r2 w1 => jn (fun (t4 : Int32) (w5 : Wd) => if 0 ≤ t4 then (if t4 < 20 then (gd (ib t4 20) (some ((some (1010 + ix t4) : Option Nat), w5))) else (some ((none : Option Nat), w5))) else (some ((none : Option Nat), w5))) (fun j3 => if r2 = true then (cl (sh_34 o0 w1) (fun r10 w9 => j3 (r10.toInt32) w9)) else (j3 (-1) w1)))
set_option maxRecDepth 20000 in
set_option maxHeartbeats 4000000 in
theorem ev_33 {d : Nat} (hd : 2 ≤ d) {o0 : Nat} {w : Wd} (hT : TY w) (ho0 : ist o0 7) : sp (sh_33 o0 w) (fun r w' => TY w' ∧ Ev d 33 [.ref o0] w (cvR r) w') := by
  obtain ⟨d, rfl⟩ : ∃ d', d = d' + 1 := ⟨d - 1, by omega⟩
  refine ev_of (M := M33) zin_33 rfl (by decide) rfl (Nat.le_of_ble_eq_true rfl) (Or.inr ⟨o0, _, rfl, ho0⟩) hT ?_
  show sp _ (PP (Ev d) M33 (KR cvR) (0, [(0, .ref o0)], [], w))
  unfold sh_33
  refine s_aload rfl rfl ?_
  refine s_const rfl ?_
  refine s_callZ [.ref o0, .int 2] [] rfl rfl (Nat.le_of_ble_eq_true rfl) (ev_31 (d := d) (by omega) hT ho0) (fun r2 w1 hT1 => ?_)
  refine s_jnP (fun (s11 : Int32) w => (17, [], [.int s11], w)) (fun t4 w5 hT5 => ?_) (fun j3 hj3 => ?_)
  · show sp _ (PP _ _ _ (17, [], [.int t4], w5))
    refine s_istoreF [(1, .int t4)] rfl (subl_c rfl (subl_n)) ?_
    refine s_iload rfl rfl ?_
    refine sp_ite (fun h6 => ?_) (fun h6 => ?_)
    · refine s_if0 rfl (zc_lt0 h6) ?_
      refine s_iload rfl rfl ?_
      refine s_static rfl ?_
      refine s_lenW rfl ?_
      refine sp_ite (fun h7 => ?_) (fun h7 => ?_)
      · refine s_ic0 rfl (zc_ge0 h7) ?_
        refine s_static rfl ?_
        refine s_iload rfl rfl ?_
        refine s_aaldW rfl ?_
        refine s_goto rfl ?_
        exact s_retR (x := some (1010 + ix t4)) rfl rfl hT5 (fun _ _ h => h)
      · refine s_ic1 rfl (zc_ge1 h7) ?_
        refine s_anull rfl ?_
        exact s_retR (x := none) rfl rfl hT5 (fun _ _ h => h)
    · refine s_if1 rfl (zc_lt1 h6) ?_
      refine s_anull rfl ?_
      exact s_retR (x := none) rfl rfl hT5 (fun _ _ h => h)
  · refine sp_ite (fun h8 => ?_) (fun h8 => ?_)
    · refine s_if0 rfl (zb_eq0 h8) ?_
      refine s_aload rfl rfl ?_
      refine s_callL [.ref o0] [] rfl rfl (Nat.le_of_ble_eq_true rfl) (ev_34 (d := d) (by omega) hT1 ho0) (fun r10 w9 hT9 => ?_)
      refine s_l2i rfl ?_
      refine s_goto rfl ?_
      exact s_fgt _ (subl_n) (hj3 (r10.toInt32) w9 hT9)
    · refine s_if1 rfl (zb_eq1 h8) ?_
      refine s_const rfl ?_
      exact s_fgt _ (subl_n) (hj3 (-1) w1 hT1)
/-- RugReader$Tape.refuse(I)Z -/
def sh_36 (o0 : Nat) (p1 : Int32) (w : Wd) : Option (Bool × Wd) := stI w o0 2 p1 (fun w1 => if 0 ≤ wI w1 o0 6 then (if wI w1 o0 6 ≤ 940 then (gd (ib (wI w1 o0 6) 941) (stI w1 o0 3 (wI w1 (o0 + 2) (ix (wI w1 o0 6))) (fun w4 => some (false, w4)))) else (stI w1 o0 3 0 (fun w5 => some (false, w5)))) else (stI w1 o0 3 0 (fun w6 => some (false, w6))))
set_option maxRecDepth 20000 in
set_option maxHeartbeats 4000000 in
theorem ev_36 {d : Nat} (hd : 1 ≤ d) {o0 : Nat} {p1 : Int32} {w : Wd} (hT : TY w) (ho0 : ist o0 7) : sp (sh_36 o0 p1 w) (fun r w' => TY w' ∧ Ev d 36 [.ref o0, .int p1] w (cvZ r) w') := by
  obtain ⟨d, rfl⟩ : ∃ d', d = d' + 1 := ⟨d - 1, by omega⟩
  refine ev_of (M := M36) zin_36 rfl (by decide) rfl (Nat.le_of_ble_eq_true rfl) (Or.inr ⟨o0, _, rfl, ho0⟩) hT ?_
  show sp _ (PP (Ev d) M36 (KR cvZ) (0, [(0, .ref o0), (1, .int p1)], [], w))
  unfold sh_36
  refine s_aload rfl rfl ?_
  refine s_iload rfl rfl ?_
  refine s_putI rfl hT ho0 rfl (fun w1 hT1 => ?_)
  refine s_aload rfl rfl ?_
  refine s_aload rfl rfl ?_
  refine s_getI rfl hT1 ho0 ?_
  refine sp_ite (fun h2 => ?_) (fun h2 => ?_)
  · refine s_if0 rfl (zc_lt0 h2) ?_
    refine s_aload rfl rfl ?_
    refine s_getI rfl hT1 ho0 ?_
    refine s_const rfl ?_
    refine sp_ite (fun h3 => ?_) (fun h3 => ?_)
    · refine s_ic0 rfl (zc_gt0 h3) ?_
      refine s_aload rfl rfl ?_
      refine s_getF rfl hT1 ho0 rfl ?_
      refine s_aload rfl rfl ?_
      refine s_getI rfl hT1 ho0 ?_
      refine s_iald rfl hT1 (of_7_7 ho0) ?_
      refine s_goto rfl ?_
      refine s_putI rfl hT1 ho0 rfl (fun w4 hT4 => ?_)
      refine s_const rfl ?_
      exact s_retZ (z := false) rfl rfl hT4 (fun _ _ h => h)
    · refine s_ic1 rfl (zc_gt1 h3) ?_
      refine s_const rfl ?_
      refine s_putI rfl hT1 ho0 rfl (fun w5 hT5 => ?_)
      refine s_const rfl ?_
      exact s_retZ (z := false) rfl rfl hT5 (fun _ _ h => h)
  · refine s_if1 rfl (zc_lt1 h2) ?_
    refine s_const rfl ?_
    refine s_putI rfl hT1 ho0 rfl (fun w6 hT6 => ?_)
    refine s_const rfl ?_
    exact s_retZ (z := false) rfl rfl hT6 (fun _ _ h => h)
/-- RugReader$Tape.advance()V -/
def sh_37 (o0 : Nat) (w : Wd) : Option (Unit × Wd) := if wI w o0 6 < (wI w o0 5) - 1 then (stI w o0 6 ((wI w o0 6) + 1) (fun w2 => some ((), w2))) else (some ((), w))
set_option maxRecDepth 20000 in
set_option maxHeartbeats 4000000 in
theorem ev_37 {d : Nat} (hd : 1 ≤ d) {o0 : Nat} {w : Wd} (hT : TY w) (ho0 : ist o0 7) : sp (sh_37 o0 w) (fun r w' => TY w' ∧ Ev d 37 [.ref o0] w (cvV r) w') := by
  obtain ⟨d, rfl⟩ : ∃ d', d = d' + 1 := ⟨d - 1, by omega⟩
  refine ev_of (M := M37) zin_37 rfl (by decide) rfl (Nat.le_of_ble_eq_true rfl) (Or.inr ⟨o0, _, rfl, ho0⟩) hT ?_
  show sp _ (PP (Ev d) M37 (KR cvV) (0, [(0, .ref o0)], [], w))
  unfold sh_37
  refine s_aload rfl rfl ?_
  refine s_getI rfl hT ho0 ?_
  refine s_aload rfl rfl ?_
  refine s_getI rfl hT ho0 ?_
  refine s_const rfl ?_
  refine s_bin rfl rfl ?_
  refine sp_ite (fun h1 => ?_) (fun h1 => ?_)
  · refine s_ic0 rfl (zc_ge0 h1) ?_
    refine s_aload rfl rfl ?_
    refine s_dup rfl rfl ?_
    refine s_getI rfl hT ho0 ?_
    refine s_const rfl ?_
    refine s_bin rfl rfl ?_
    refine s_putI rfl hT ho0 rfl (fun w2 hT2 => ?_)
    exact s_retV rfl rfl hT2 (fun _ _ h => h)
  · refine s_ic1 rfl (zc_ge1 h1) ?_
    exact s_retV rfl rfl hT (fun _ _ h => h)
/-- RugReader$Tape.numberHere(II)I -/
def sh_39 (o0 : Nat) (p1 : Int32) (p2 : Int32) (w : Wd) : Option (Int32 × Wd) := cl (sh_31 o0 3 w) (fun r2 w1 => jn (fun (t4 : Int32) (w5 : Wd) => jn (fun (s15 : Unit) (w7 : Wd) => lt (if t4 = (-1) then 1 else 2 : Int32) (fun z8 => cl (sh_36 o0 z8 w7) (fun r10 w9 => some ((-1), w9)))) (fun j6 => if p1 ≤ t4 then (if p2 < t4 then (j6 () w5) else (some (t4, w5))) else (j6 () w5))) (fun j3 => if r2 = true then (cl (sh_34 o0 w1) (fun r18 w17 => j3 (r18.toInt32) w17)) else (j3 (-1) w1)))
set_option maxRecDepth 20000 in
set_option maxHeartbeats 4000000 in
theorem ev_39 {d : Nat} (hd : 2 ≤ d) {o0 : Nat} {p1 : Int32} {p2 : Int32} {w : Wd} (hT : TY w) (ho0 : ist o0 7) : sp (sh_39 o0 p1 p2 w) (fun r w' => TY w' ∧ Ev d 39 [.ref o0, .int p1, .int p2] w (cvI r) w') := by
  obtain ⟨d, rfl⟩ : ∃ d', d = d' + 1 := ⟨d - 1, by omega⟩
  refine ev_of (M := M39) zin_39 rfl (by decide) rfl (Nat.le_of_ble_eq_true rfl) (Or.inr ⟨o0, _, rfl, ho0⟩) hT ?_
  show sp _ (PP (Ev d) M39 (KR cvI) (0, [(0, .ref o0), (1, .int p1), (2, .int p2)], [], w))
  unfold sh_39
  refine s_aload rfl rfl ?_
  refine s_const rfl ?_
  refine s_callZ [.ref o0, .int 3] [] rfl rfl (Nat.le_of_ble_eq_true rfl) (ev_31 (d := d) (by omega) hT ho0) (fun r2 w1 hT1 => ?_)
  refine s_jnP (fun (s19 : Int32) w => (17, [(0, .ref o0), (1, .int p1), (2, .int p2)], [.int s19], w)) (fun t4 w5 hT5 => ?_) (fun j3 hj3 => ?_)
  · show sp _ (PP _ _ _ (17, [(0, .ref o0), (1, .int p1), (2, .int p2)], [.int t4], w5))
    refine s_istoreF [(0, .ref o0), (1, .int p1), (2, .int p2), (3, .int t4)] rfl (subl_c rfl (subl_c rfl (subl_c rfl (subl_c rfl (subl_n))))) ?_
    refine s_iload rfl rfl ?_
    refine s_iload rfl rfl ?_
    refine s_jnP (fun (s15 : Unit) w => (28, [(0, .ref o0), (3, .int t4)], [], w)) (fun s15 w7 hT7 => ?_) (fun j6 hj6 => ?_)
    · show sp _ (PP _ _ _ (28, [(0, .ref o0), (3, .int t4)], [], w7))
      refine s_aload rfl rfl ?_
      refine s_iload rfl rfl ?_
      refine s_const rfl ?_
      refine sp_lt (fun z8 hz8 => ?_)
      refine s_dia (39, [(0, .ref o0), (3, .int t4)], [.int z8, .ref o0], w7) ?_ (fun hk11 => ?_)
      · refine s_callZ [.ref o0, .int z8] [] rfl rfl (Nat.le_of_ble_eq_true rfl) (ev_36 (d := d) (by omega) hT7 ho0) (fun r10 w9 hT9 => ?_)
        refine s_pop rfl rfl ?_
        refine s_const rfl ?_
        exact s_retI rfl rfl hT9 (fun _ _ h => h)
      · by_cases h12 : t4 = (-1)
        · refine s_ic0 rfl (zc_ne0 h12) ?_
          refine s_const rfl ?_
          refine s_goto rfl ?_
          refine s_cong ?_ hk11
          (rw [hz8, if_pos h12])
        · refine s_ic1 rfl (zc_ne1 h12) ?_
          refine s_const rfl ?_
          refine s_cong ?_ hk11
          (rw [hz8, if_neg h12])
    · refine sp_ite (fun h13 => ?_) (fun h13 => ?_)
      · refine s_ic0 rfl (zc_lt0 h13) ?_
        refine s_iload rfl rfl ?_
        refine s_iload rfl rfl ?_
        refine sp_ite (fun h14 => ?_) (fun h14 => ?_)
        · refine s_ic0 rfl (zc_le0 h14) ?_
          exact s_fgt _ (subl_c rfl (subl_c rfl (subl_n))) (hj6 () w5 hT5)
        · refine s_ic1 rfl (zc_le1 h14) ?_
          refine s_iload rfl rfl ?_
          exact s_retI rfl rfl hT5 (fun _ _ h => h)
      · refine s_ic1 rfl (zc_lt1 h13) ?_
        exact s_fgt _ (subl_c rfl (subl_c rfl (subl_n))) (hj6 () w5 hT5)
  · refine sp_ite (fun h16 => ?_) (fun h16 => ?_)
    · refine s_if0 rfl (zb_eq0 h16) ?_
      refine s_aload rfl rfl ?_
      refine s_callL [.ref o0] [] rfl rfl (Nat.le_of_ble_eq_true rfl) (ev_34 (d := d) (by omega) hT1 ho0) (fun r18 w17 hT17 => ?_)
      refine s_l2i rfl ?_
      refine s_goto rfl ?_
      exact s_fgt _ (subl_c rfl (subl_c rfl (subl_c rfl (subl_n)))) (hj3 (r18.toInt32) w17 hT17)
    · refine s_if1 rfl (zb_eq1 h16) ?_
      refine s_const rfl ?_
      exact s_fgt _ (subl_c rfl (subl_c rfl (subl_c rfl (subl_n)))) (hj3 (-1) w1 hT1)
/-- RugReader$Tape.takeNumber(II)I -/
def sh_38 (o0 : Nat) (p1 : Int32) (p2 : Int32) (w : Wd) : Option (Int32 × Wd) := cl (sh_39 o0 p1 p2 w) (fun r2 w1 => if r2 = (-1) then (some (r2, w1)) else (cl (sh_37 o0 w1) (fun _ w4 => some (r2, w4))))
set_option maxRecDepth 20000 in
set_option maxHeartbeats 4000000 in
theorem ev_38 {d : Nat} (hd : 3 ≤ d) {o0 : Nat} {p1 : Int32} {p2 : Int32} {w : Wd} (hT : TY w) (ho0 : ist o0 7) : sp (sh_38 o0 p1 p2 w) (fun r w' => TY w' ∧ Ev d 38 [.ref o0, .int p1, .int p2] w (cvI r) w') := by
  obtain ⟨d, rfl⟩ : ∃ d', d = d' + 1 := ⟨d - 1, by omega⟩
  refine ev_of (M := M38) zin_38 rfl (by decide) rfl (Nat.le_of_ble_eq_true rfl) (Or.inr ⟨o0, _, rfl, ho0⟩) hT ?_
  show sp _ (PP (Ev d) M38 (KR cvI) (0, [(0, .ref o0), (1, .int p1), (2, .int p2)], [], w))
  unfold sh_38
  refine s_aload rfl rfl ?_
  refine s_iload rfl rfl ?_
  refine s_iload rfl rfl ?_
  refine s_callI [.ref o0, .int p1, .int p2] [] rfl rfl (Nat.le_of_ble_eq_true rfl) (ev_39 (d := d) (by omega) hT ho0) (fun r2 w1 hT1 => ?_)
  refine s_istoreF [(0, .ref o0), (3, .int r2)] rfl (subl_c rfl (subl_c rfl (subl_n))) ?_
  refine s_iload rfl rfl ?_
  refine s_const rfl ?_
  refine sp_ite (fun h3 => ?_) (fun h3 => ?_)
  · refine s_ic1 rfl (zc_eq1 h3) ?_
    refine s_iload rfl rfl ?_
    exact s_retI rfl rfl hT1 (fun _ _ h => h)
  · refine s_ic0 rfl (zc_eq0 h3) ?_
    refine s_aload rfl rfl ?_
    refine s_callV [.ref o0] [] rfl rfl (Nat.le_of_ble_eq_true rfl) (ev_37 (d := d) (by omega) hT1 ho0) (fun _ w4 hT4 => ?_)
    refine s_iload rfl rfl ?_
    exact s_retI rfl rfl hT4 (fun _ _ h => h)
/-- RugReader$HouseText.takeRug(LRugReader$House;)Z -/
def sh_35 (o0 : Nat) (o1 : Nat) (w : Wd) : Option (Bool × Wd) := if 0 < wI w o1 0 then (cl (sh_36 1 3 w) (fun r3 w2 => some (r3, w2))) else (cl (sh_37 1 w) (fun _ w4 => cl (sh_38 1 2 12 w4) (fun r7 w6 => if r7 = (-1) then (some (false, w6)) else (cl (sh_38 1 2 12 w6) (fun r10 w9 => if r10 = (-1) then (some (false, w9)) else (stI w9 o1 0 r7 (fun w12 => stI w12 o1 1 r10 (fun w13 => some (true, w13)))))))))
set_option maxRecDepth 20000 in
set_option maxHeartbeats 4000000 in
theorem ev_35 {d : Nat} (hd : 4 ≤ d) {o0 : Nat} {o1 : Nat} {w : Wd} (hT : TY w) (ho0 : ist o0 2) (ho1 : ist o1 1) : sp (sh_35 o0 o1 w) (fun r w' => TY w' ∧ Ev d 35 [.ref o0, .ref o1] w (cvZ r) w') := by
  obtain ⟨d, rfl⟩ : ∃ d', d = d' + 1 := ⟨d - 1, by omega⟩
  refine ev_of (M := M35) zin_35 rfl (by decide) rfl (Nat.le_of_ble_eq_true rfl) (Or.inr ⟨o0, _, rfl, ho0⟩) hT ?_
  show sp _ (PP (Ev d) M35 (KR cvZ) (0, [(0, .ref o0), (1, .ref o1)], [], w))
  unfold sh_35
  refine s_aload rfl rfl ?_
  refine s_getI rfl hT ho1 ?_
  refine sp_ite (fun h1 => ?_) (fun h1 => ?_)
  · refine s_if0 rfl (zc_le0 h1) ?_
    refine s_aload rfl rfl ?_
    refine s_get6 rfl hT ho0 ?_
    refine s_const rfl ?_
    refine s_callZ [.ref 1, .int 3] [] rfl rfl (Nat.le_of_ble_eq_true rfl) (ev_36 (d := d) (by omega) hT ist_1) (fun r3 w2 hT2 => ?_)
    exact s_retZ (z := r3) rfl rfl hT2 (fun _ _ h => h)
  · refine s_if1 rfl (zc_le1 h1) ?_
    refine s_aload rfl rfl ?_
    refine s_get6 rfl hT ho0 ?_
    refine s_callV [.ref 1] [] rfl rfl (Nat.le_of_ble_eq_true rfl) (ev_37 (d := d) (by omega) hT ist_1) (fun _ w4 hT4 => ?_)
    refine s_aload rfl rfl ?_
    refine s_get6 rfl hT4 ho0 ?_
    refine s_const rfl ?_
    refine s_const rfl ?_
    refine s_callI [.ref 1, .int 2, .int 12] [] rfl rfl (Nat.le_of_ble_eq_true rfl) (ev_38 (d := d) (by omega) hT4 ist_1) (fun r7 w6 hT6 => ?_)
    refine s_istoreF [(0, .ref o0), (1, .ref o1), (2, .int r7)] rfl (subl_c rfl (subl_c rfl (subl_c rfl (subl_n)))) ?_
    refine s_iload rfl rfl ?_
    refine s_const rfl ?_
    refine sp_ite (fun h8 => ?_) (fun h8 => ?_)
    · refine s_ic0 rfl (zc_ne0 h8) ?_
      refine s_const rfl ?_
      exact s_retZ (z := false) rfl rfl hT6 (fun _ _ h => h)
    · refine s_ic1 rfl (zc_ne1 h8) ?_
      refine s_aload rfl rfl ?_
      refine s_get6 rfl hT6 ho0 ?_
      refine s_const rfl ?_
      refine s_const rfl ?_
      refine s_callI [.ref 1, .int 2, .int 12] [] rfl rfl (Nat.le_of_ble_eq_true rfl) (ev_38 (d := d) (by omega) hT6 ist_1) (fun r10 w9 hT9 => ?_)
      refine s_istoreF [(1, .ref o1), (2, .int r7), (3, .int r10)] rfl (subl_c rfl (subl_c rfl (subl_c rfl (subl_n)))) ?_
      refine s_iload rfl rfl ?_
      refine s_const rfl ?_
      refine sp_ite (fun h11 => ?_) (fun h11 => ?_)
      · refine s_ic0 rfl (zc_ne0 h11) ?_
        refine s_const rfl ?_
        exact s_retZ (z := false) rfl rfl hT9 (fun _ _ h => h)
      · refine s_ic1 rfl (zc_ne1 h11) ?_
        refine s_aload rfl rfl ?_
        refine s_iload rfl rfl ?_
        refine s_putI rfl hT9 ho1 rfl (fun w12 hT12 => ?_)
        refine s_aload rfl rfl ?_
        refine s_iload rfl rfl ?_
        refine s_putI rfl hT12 ho1 rfl (fun w13 hT13 => ?_)
        refine s_const rfl ?_
        exact s_retZ (z := true) rfl rfl hT13 (fun _ _ h => h)
/-- RugReader$Tape.nameHere()J -/
def sh_42 (o0 : Nat) (w : Wd) : Option (Int64 × Wd) := cl (sh_31 o0 1 w) (fun r2 w1 => if r2 = true then (cl (sh_34 o0 w1) (fun r5 w4 => some (r5, w4))) else (cl (sh_36 o0 1 w1) (fun r7 w6 => some ((-1), w6))))
set_option maxRecDepth 20000 in
set_option maxHeartbeats 4000000 in
theorem ev_42 {d : Nat} (hd : 2 ≤ d) {o0 : Nat} {w : Wd} (hT : TY w) (ho0 : ist o0 7) : sp (sh_42 o0 w) (fun r w' => TY w' ∧ Ev d 42 [.ref o0] w (cvL r) w') := by
  obtain ⟨d, rfl⟩ : ∃ d', d = d' + 1 := ⟨d - 1, by omega⟩
  refine ev_of (M := M42) zin_42 rfl (by decide) rfl (Nat.le_of_ble_eq_true rfl) (Or.inr ⟨o0, _, rfl, ho0⟩) hT ?_
  show sp _ (PP (Ev d) M42 (KR cvL) (0, [(0, .ref o0)], [], w))
  unfold sh_42
  refine s_aload rfl rfl ?_
  refine s_const rfl ?_
  refine s_callZ [.ref o0, .int 1] [] rfl rfl (Nat.le_of_ble_eq_true rfl) (ev_31 (d := d) (by omega) hT ho0) (fun r2 w1 hT1 => ?_)
  refine sp_ite (fun h3 => ?_) (fun h3 => ?_)
  · refine s_if0 rfl (zb_eq0 h3) ?_
    refine s_aload rfl rfl ?_
    refine s_callL [.ref o0] [] rfl rfl (Nat.le_of_ble_eq_true rfl) (ev_34 (d := d) (by omega) hT1 ho0) (fun r5 w4 hT4 => ?_)
    exact s_retL rfl rfl hT4 (fun _ _ h => h)
  · refine s_if1 rfl (zb_eq1 h3) ?_
    refine s_aload rfl rfl ?_
    refine s_const rfl ?_
    refine s_callZ [.ref o0, .int 1] [] rfl rfl (Nat.le_of_ble_eq_true rfl) (ev_36 (d := d) (by omega) hT1 ho0) (fun r7 w6 hT6 => ?_)
    refine s_pop rfl rfl ?_
    refine s_lconst (x := (-1)) rfl rfl ?_
    exact s_retL rfl rfl hT6 (fun _ _ h => h)
/-- RugReader$House.personNamed(J)I -/
def sh_43 (o0 : Nat) (p1 : Int64) (w : Wd) : Option (Int32 × Wd) := itM (fun (v3_1 : Int32) (w3 : Wd) => if v3_1 < wI w3 o0 3 then (if v3_1 < 6 then (gd (ib v3_1 6) (if wL w3 (o0 + 4) (ix v3_1) = p1 then (some (.inr (v3_1), w3)) else (lt (v3_1 + 1 : Int32) (fun v3_7 => some (.inl v3_7, w3))))) else (some (.inr ((-1)), w3))) else (some (.inr ((-1)), w3))) FU 0 w
set_option maxRecDepth 20000 in
set_option maxHeartbeats 4000000 in
theorem ev_43 {d : Nat} (hd : 1 ≤ d) {o0 : Nat} {p1 : Int64} {w : Wd} (hT : TY w) (ho0 : ist o0 1) : sp (sh_43 o0 p1 w) (fun r w' => TY w' ∧ Ev d 43 [.ref o0, .long p1] w (cvI r) w') := by
  obtain ⟨d, rfl⟩ : ∃ d', d = d' + 1 := ⟨d - 1, by omega⟩
  refine ev_of (M := M43) zin_43 rfl (by decide) rfl (Nat.le_of_ble_eq_true rfl) (Or.inr ⟨o0, _, rfl, ho0⟩) hT ?_
  show sp _ (PP (Ev d) M43 (KR cvI) (0, [(0, .ref o0), (1, .long p1)], [], w))
  unfold sh_43
  refine s_const rfl ?_
  refine s_istoreF [(0, .ref o0), (1, .long p1), (3, .int 0)] rfl (subl_c rfl (subl_c rfl (subl_c rfl (subl_n)))) ?_
  let lvL2 : Int32 → List (Nat × Value) := fun s8 => [(0, .ref o0), (1, .long p1), (3, .int s8)]
  refine s_loop lvL2 (subl_c rfl (subl_c rfl (subl_c rfl (subl_n)))) hT (fun v3_1 w3 hT3 => ?_)
  show sp _ (PP _ _ _ (2, [(0, .ref o0), (1, .long p1), (3, .int v3_1)], [], w3))
  refine s_iload rfl rfl ?_
  refine s_aload rfl rfl ?_
  refine s_getI rfl hT3 ho0 ?_
  refine sp_ite (fun h4 => ?_) (fun h4 => ?_)
  · refine s_ic0 rfl (zc_ge0 h4) ?_
    refine s_iload rfl rfl ?_
    refine s_const rfl ?_
    refine sp_ite (fun h5 => ?_) (fun h5 => ?_)
    · refine s_ic0 rfl (zc_ge0 h5) ?_
      refine s_aload rfl rfl ?_
      refine s_getF rfl hT3 ho0 rfl ?_
      refine s_iload rfl rfl ?_
      refine s_lald rfl hT3 (of_1_10 ho0) ?_
      refine s_lload rfl rfl ?_
      refine s_lcmp rfl ?_
      refine sp_ite (fun h6 => ?_) (fun h6 => ?_)
      · refine s_if0 rfl (zl_ne0 h6) ?_
        refine s_iload rfl rfl ?_
        exact s_retI rfl rfl hT3 (fun _ _ h => h)
      · refine s_if1 rfl (zl_ne1 h6) ?_
        refine s_iincF (fun v3_7 => [(0, .ref o0), (1, .long p1), (3, .int v3_7)]) rfl rfl (fun _ => subl_c rfl (subl_c rfl (subl_c rfl (subl_n)))) (fun v3_7 => ?_)
        refine s_goto rfl ?_
        exact s_back (lvL := lvL2) (s' := v3_7) (subl_c rfl (subl_c rfl (subl_c rfl (subl_n)))) hT3 (fun _ _ h => h)
    · refine s_ic1 rfl (zc_ge1 h5) ?_
      refine s_const rfl ?_
      exact s_retI rfl rfl hT3 (fun _ _ h => h)
  · refine s_ic1 rfl (zc_ge1 h4) ?_
    refine s_const rfl ?_
    exact s_retI rfl rfl hT3 (fun _ _ h => h)
/-- RugReader$House.wayNamed(J)I -/
def sh_44 (o0 : Nat) (p1 : Int64) (w : Wd) : Option (Int32 × Wd) := itM (fun (v3_1 : Int32) (w3 : Wd) => if v3_1 < wI w3 o0 4 then (if v3_1 < 6 then (gd (ib v3_1 6) (if wL w3 (o0 + 5) (ix v3_1) = p1 then (some (.inr (v3_1), w3)) else (lt (v3_1 + 1 : Int32) (fun v3_7 => some (.inl v3_7, w3))))) else (some (.inr ((-1)), w3))) else (some (.inr ((-1)), w3))) FU 0 w
set_option maxRecDepth 20000 in
set_option maxHeartbeats 4000000 in
theorem ev_44 {d : Nat} (hd : 1 ≤ d) {o0 : Nat} {p1 : Int64} {w : Wd} (hT : TY w) (ho0 : ist o0 1) : sp (sh_44 o0 p1 w) (fun r w' => TY w' ∧ Ev d 44 [.ref o0, .long p1] w (cvI r) w') := by
  obtain ⟨d, rfl⟩ : ∃ d', d = d' + 1 := ⟨d - 1, by omega⟩
  refine ev_of (M := M44) zin_44 rfl (by decide) rfl (Nat.le_of_ble_eq_true rfl) (Or.inr ⟨o0, _, rfl, ho0⟩) hT ?_
  show sp _ (PP (Ev d) M44 (KR cvI) (0, [(0, .ref o0), (1, .long p1)], [], w))
  unfold sh_44
  refine s_const rfl ?_
  refine s_istoreF [(0, .ref o0), (1, .long p1), (3, .int 0)] rfl (subl_c rfl (subl_c rfl (subl_c rfl (subl_n)))) ?_
  let lvL2 : Int32 → List (Nat × Value) := fun s8 => [(0, .ref o0), (1, .long p1), (3, .int s8)]
  refine s_loop lvL2 (subl_c rfl (subl_c rfl (subl_c rfl (subl_n)))) hT (fun v3_1 w3 hT3 => ?_)
  show sp _ (PP _ _ _ (2, [(0, .ref o0), (1, .long p1), (3, .int v3_1)], [], w3))
  refine s_iload rfl rfl ?_
  refine s_aload rfl rfl ?_
  refine s_getI rfl hT3 ho0 ?_
  refine sp_ite (fun h4 => ?_) (fun h4 => ?_)
  · refine s_ic0 rfl (zc_ge0 h4) ?_
    refine s_iload rfl rfl ?_
    refine s_const rfl ?_
    refine sp_ite (fun h5 => ?_) (fun h5 => ?_)
    · refine s_ic0 rfl (zc_ge0 h5) ?_
      refine s_aload rfl rfl ?_
      refine s_getF rfl hT3 ho0 rfl ?_
      refine s_iload rfl rfl ?_
      refine s_lald rfl hT3 (of_1_11 ho0) ?_
      refine s_lload rfl rfl ?_
      refine s_lcmp rfl ?_
      refine sp_ite (fun h6 => ?_) (fun h6 => ?_)
      · refine s_if0 rfl (zl_ne0 h6) ?_
        refine s_iload rfl rfl ?_
        exact s_retI rfl rfl hT3 (fun _ _ h => h)
      · refine s_if1 rfl (zl_ne1 h6) ?_
        refine s_iincF (fun v3_7 => [(0, .ref o0), (1, .long p1), (3, .int v3_7)]) rfl rfl (fun _ => subl_c rfl (subl_c rfl (subl_c rfl (subl_n)))) (fun v3_7 => ?_)
        refine s_goto rfl ?_
        exact s_back (lvL := lvL2) (s' := v3_7) (subl_c rfl (subl_c rfl (subl_c rfl (subl_n)))) hT3 (fun _ _ h => h)
    · refine s_ic1 rfl (zc_ge1 h5) ?_
      refine s_const rfl ?_
      exact s_retI rfl rfl hT3 (fun _ _ h => h)
  · refine s_ic1 rfl (zc_ge1 h4) ?_
    refine s_const rfl ?_
    exact s_retI rfl rfl hT3 (fun _ _ h => h)
/-- RugReader$HouseText.takeNewName(LRugReader$House;)J -/
def sh_41 (o0 : Nat) (o1 : Nat) (w : Wd) : Option (Int64 × Wd) := cl (sh_42 1 w) (fun r2 w1 => if r2 = (-1) then (some ((-1), w1)) else (cl (sh_43 o1 r2 w1) (fun r5 w4 => if r5 = (-1) then (cl (sh_44 o1 r2 w4) (fun r8 w7 => if r8 = (-1) then (cl (sh_37 1 w7) (fun _ w10 => some (r2, w10))) else (cl (sh_36 1 3 w7) (fun r13 w12 => some ((-1), w12))))) else (cl (sh_36 1 3 w4) (fun r15 w14 => some ((-1), w14))))))
set_option maxRecDepth 20000 in
set_option maxHeartbeats 4000000 in
theorem ev_41 {d : Nat} (hd : 3 ≤ d) {o0 : Nat} {o1 : Nat} {w : Wd} (hT : TY w) (ho0 : ist o0 2) (ho1 : ist o1 1) : sp (sh_41 o0 o1 w) (fun r w' => TY w' ∧ Ev d 41 [.ref o0, .ref o1] w (cvL r) w') := by
  obtain ⟨d, rfl⟩ : ∃ d', d = d' + 1 := ⟨d - 1, by omega⟩
  refine ev_of (M := M41) zin_41 rfl (by decide) rfl (Nat.le_of_ble_eq_true rfl) (Or.inr ⟨o0, _, rfl, ho0⟩) hT ?_
  show sp _ (PP (Ev d) M41 (KR cvL) (0, [(0, .ref o0), (1, .ref o1)], [], w))
  unfold sh_41
  refine s_aload rfl rfl ?_
  refine s_get6 rfl hT ho0 ?_
  refine s_callL [.ref 1] [] rfl rfl (Nat.le_of_ble_eq_true rfl) (ev_42 (d := d) (by omega) hT ist_1) (fun r2 w1 hT1 => ?_)
  refine s_lstoreF [(0, .ref o0), (1, .ref o1), (2, .long r2)] rfl (subl_c rfl (subl_c rfl (subl_c rfl (subl_n)))) ?_
  refine s_lload rfl rfl ?_
  refine s_lconst (x := (-1)) rfl rfl ?_
  refine s_lcmp rfl ?_
  refine sp_ite (fun h3 => ?_) (fun h3 => ?_)
  · refine s_if0 rfl (zl_ne0 h3) ?_
    refine s_lconst (x := (-1)) rfl rfl ?_
    exact s_retL rfl rfl hT1 (fun _ _ h => h)
  · refine s_if1 rfl (zl_ne1 h3) ?_
    refine s_aload rfl rfl ?_
    refine s_lload rfl rfl ?_
    refine s_callI [.ref o1, .long r2] [] rfl rfl (Nat.le_of_ble_eq_true rfl) (ev_43 (d := d) (by omega) hT1 ho1) (fun r5 w4 hT4 => ?_)
    refine s_const rfl ?_
    refine sp_ite (fun h6 => ?_) (fun h6 => ?_)
    · refine s_ic0 rfl (zc_ne0 h6) ?_
      refine s_aload rfl rfl ?_
      refine s_lload rfl rfl ?_
      refine s_callI [.ref o1, .long r2] [] rfl rfl (Nat.le_of_ble_eq_true rfl) (ev_44 (d := d) (by omega) hT4 ho1) (fun r8 w7 hT7 => ?_)
      refine s_const rfl ?_
      refine sp_ite (fun h9 => ?_) (fun h9 => ?_)
      · refine s_ic1 rfl (zc_eq1 h9) ?_
        refine s_aload rfl rfl ?_
        refine s_get6 rfl hT7 ho0 ?_
        refine s_callV [.ref 1] [] rfl rfl (Nat.le_of_ble_eq_true rfl) (ev_37 (d := d) (by omega) hT7 ist_1) (fun _ w10 hT10 => ?_)
        refine s_lload rfl rfl ?_
        exact s_retL rfl rfl hT10 (fun _ _ h => h)
      · refine s_ic0 rfl (zc_eq0 h9) ?_
        refine s_aload rfl rfl ?_
        refine s_get6 rfl hT7 ho0 ?_
        refine s_const rfl ?_
        refine s_callZ [.ref 1, .int 3] [] rfl rfl (Nat.le_of_ble_eq_true rfl) (ev_36 (d := d) (by omega) hT7 ist_1) (fun r13 w12 hT12 => ?_)
        refine s_pop rfl rfl ?_
        refine s_lconst (x := (-1)) rfl rfl ?_
        exact s_retL rfl rfl hT12 (fun _ _ h => h)
    · refine s_ic1 rfl (zc_ne1 h6) ?_
      refine s_aload rfl rfl ?_
      refine s_get6 rfl hT4 ho0 ?_
      refine s_const rfl ?_
      refine s_callZ [.ref 1, .int 3] [] rfl rfl (Nat.le_of_ble_eq_true rfl) (ev_36 (d := d) (by omega) hT4 ist_1) (fun r15 w14 hT14 => ?_)
      refine s_pop rfl rfl ?_
      refine s_lconst (x := (-1)) rfl rfl ?_
      exact s_retL rfl rfl hT14 (fun _ _ h => h)
/-- RugReader$HouseText.takePerson(LRugReader$House;)Z -/
def sh_40 (o0 : Nat) (o1 : Nat) (w : Wd) : Option (Bool × Wd) := lt (wI w o1 3 : Int32) (fun v2_1 => if 0 ≤ v2_1 then (if 6 ≤ v2_1 then (cl (sh_36 1 4 w) (fun r5 w4 => some (r5, w4))) else (cl (sh_37 1 w) (fun _ w6 => cl (sh_41 o0 o1 w6) (fun r9 w8 => gd (ib v2_1 6) (stL w8 (o1 + 4) (ix v2_1) r9 (fun w10 => gd (ib v2_1 6) (if wL w10 (o1 + 4) (ix v2_1) = (-1) then (some (false, w10)) else (cl (sh_38 1 1 9 w10) (fun r13 w12 => gd (ib v2_1 6) (stI w12 (o1 + 1) (ix v2_1) r13 (fun w14 => gd (ib v2_1 6) (if wI w14 (o1 + 1) (ix v2_1) = (-1) then (some (false, w14)) else (cl (sh_38 1 0 9 w14) (fun r17 w16 => gd (ib v2_1 6) (stI w16 (o1 + 2) (ix v2_1) r17 (fun w18 => gd (ib v2_1 6) (if wI w18 (o1 + 2) (ix v2_1) = (-1) then (some (false, w18)) else (cl (sh_38 1 1 9 w18) (fun r21 w20 => gd (ib v2_1 6) (stI w20 (o1 + 3) (ix v2_1) r21 (fun w22 => gd (ib v2_1 6) (if wI w22 (o1 + 3) (ix v2_1) = (-1) then (some (false, w22)) else (stI w22 o1 3 ((wI w22 o1 3) + 1) (fun w24 => some (true, w24))))))))))))))))))))))))) else (cl (sh_36 1 4 w) (fun r26 w25 => some (r26, w25))))
set_option maxRecDepth 20000 in
set_option maxHeartbeats 4000000 in
theorem ev_40 {d : Nat} (hd : 4 ≤ d) {o0 : Nat} {o1 : Nat} {w : Wd} (hT : TY w) (ho0 : ist o0 2) (ho1 : ist o1 1) : sp (sh_40 o0 o1 w) (fun r w' => TY w' ∧ Ev d 40 [.ref o0, .ref o1] w (cvZ r) w') := by
  obtain ⟨d, rfl⟩ : ∃ d', d = d' + 1 := ⟨d - 1, by omega⟩
  refine ev_of (M := M40) zin_40 rfl (by decide) rfl (Nat.le_of_ble_eq_true rfl) (Or.inr ⟨o0, _, rfl, ho0⟩) hT ?_
  show sp _ (PP (Ev d) M40 (KR cvZ) (0, [(0, .ref o0), (1, .ref o1)], [], w))
  unfold sh_40
  refine s_aload rfl rfl ?_
  refine s_getI rfl hT ho1 ?_
  refine s_nmI (fun v2_1 => ?_)
  refine s_istoreF [(0, .ref o0), (1, .ref o1), (2, .int v2_1)] rfl (subl_c rfl (subl_c rfl (subl_c rfl (subl_n)))) ?_
  refine s_iload rfl rfl ?_
  refine sp_ite (fun h2 => ?_) (fun h2 => ?_)
  · refine s_if0 rfl (zc_lt0 h2) ?_
    refine s_iload rfl rfl ?_
    refine s_const rfl ?_
    refine sp_ite (fun h3 => ?_) (fun h3 => ?_)
    · refine s_ic0 rfl (zc_lt0 h3) ?_
      refine s_aload rfl rfl ?_
      refine s_get6 rfl hT ho0 ?_
      refine s_const rfl ?_
      refine s_callZ [.ref 1, .int 4] [] rfl rfl (Nat.le_of_ble_eq_true rfl) (ev_36 (d := d) (by omega) hT ist_1) (fun r5 w4 hT4 => ?_)
      exact s_retZ (z := r5) rfl rfl hT4 (fun _ _ h => h)
    · refine s_ic1 rfl (zc_lt1 h3) ?_
      refine s_aload rfl rfl ?_
      refine s_get6 rfl hT ho0 ?_
      refine s_callV [.ref 1] [] rfl rfl (Nat.le_of_ble_eq_true rfl) (ev_37 (d := d) (by omega) hT ist_1) (fun _ w6 hT6 => ?_)
      refine s_aload rfl rfl ?_
      refine s_getF rfl hT6 ho1 rfl ?_
      refine s_iload rfl rfl ?_
      refine s_aload rfl rfl ?_
      refine s_aload rfl rfl ?_
      refine s_callL [.ref o0, .ref o1] [.int v2_1, .ref (o1 + 4)] rfl rfl (Nat.le_of_ble_eq_true rfl) (ev_41 (d := d) (by omega) hT6 ho0 ho1) (fun r9 w8 hT8 => ?_)
      refine s_last rfl hT8 (of_1_10 ho1) (fun w10 hT10 => ?_)
      refine s_aload rfl rfl ?_
      refine s_getF rfl hT10 ho1 rfl ?_
      refine s_iload rfl rfl ?_
      refine s_lald rfl hT10 (of_1_10 ho1) ?_
      refine s_lconst (x := (-1)) rfl rfl ?_
      refine s_lcmp rfl ?_
      refine sp_ite (fun h11 => ?_) (fun h11 => ?_)
      · refine s_if0 rfl (zl_ne0 h11) ?_
        refine s_const rfl ?_
        exact s_retZ (z := false) rfl rfl hT10 (fun _ _ h => h)
      · refine s_if1 rfl (zl_ne1 h11) ?_
        refine s_aload rfl rfl ?_
        refine s_getF rfl hT10 ho1 rfl ?_
        refine s_iload rfl rfl ?_
        refine s_aload rfl rfl ?_
        refine s_get6 rfl hT10 ho0 ?_
        refine s_const rfl ?_
        refine s_const rfl ?_
        refine s_callI [.ref 1, .int 1, .int 9] [.int v2_1, .ref (o1 + 1)] rfl rfl (Nat.le_of_ble_eq_true rfl) (ev_38 (d := d) (by omega) hT10 ist_1) (fun r13 w12 hT12 => ?_)
        refine s_iast rfl hT12 (of_1_7 ho1) (fun w14 hT14 => ?_)
        refine s_aload rfl rfl ?_
        refine s_getF rfl hT14 ho1 rfl ?_
        refine s_iload rfl rfl ?_
        refine s_iald rfl hT14 (of_1_7 ho1) ?_
        refine s_const rfl ?_
        refine sp_ite (fun h15 => ?_) (fun h15 => ?_)
        · refine s_ic0 rfl (zc_ne0 h15) ?_
          refine s_const rfl ?_
          exact s_retZ (z := false) rfl rfl hT14 (fun _ _ h => h)
        · refine s_ic1 rfl (zc_ne1 h15) ?_
          refine s_aload rfl rfl ?_
          refine s_getF rfl hT14 ho1 rfl ?_
          refine s_iload rfl rfl ?_
          refine s_aload rfl rfl ?_
          refine s_get6 rfl hT14 ho0 ?_
          refine s_const rfl ?_
          refine s_const rfl ?_
          refine s_callI [.ref 1, .int 0, .int 9] [.int v2_1, .ref (o1 + 2)] rfl rfl (Nat.le_of_ble_eq_true rfl) (ev_38 (d := d) (by omega) hT14 ist_1) (fun r17 w16 hT16 => ?_)
          refine s_iast rfl hT16 (of_1_8 ho1) (fun w18 hT18 => ?_)
          refine s_aload rfl rfl ?_
          refine s_getF rfl hT18 ho1 rfl ?_
          refine s_iload rfl rfl ?_
          refine s_iald rfl hT18 (of_1_8 ho1) ?_
          refine s_const rfl ?_
          refine sp_ite (fun h19 => ?_) (fun h19 => ?_)
          · refine s_ic0 rfl (zc_ne0 h19) ?_
            refine s_const rfl ?_
            exact s_retZ (z := false) rfl rfl hT18 (fun _ _ h => h)
          · refine s_ic1 rfl (zc_ne1 h19) ?_
            refine s_aload rfl rfl ?_
            refine s_getF rfl hT18 ho1 rfl ?_
            refine s_iload rfl rfl ?_
            refine s_aload rfl rfl ?_
            refine s_get6 rfl hT18 ho0 ?_
            refine s_const rfl ?_
            refine s_const rfl ?_
            refine s_callI [.ref 1, .int 1, .int 9] [.int v2_1, .ref (o1 + 3)] rfl rfl (Nat.le_of_ble_eq_true rfl) (ev_38 (d := d) (by omega) hT18 ist_1) (fun r21 w20 hT20 => ?_)
            refine s_iast rfl hT20 (of_1_9 ho1) (fun w22 hT22 => ?_)
            refine s_aload rfl rfl ?_
            refine s_getF rfl hT22 ho1 rfl ?_
            refine s_iload rfl rfl ?_
            refine s_iald rfl hT22 (of_1_9 ho1) ?_
            refine s_const rfl ?_
            refine sp_ite (fun h23 => ?_) (fun h23 => ?_)
            · refine s_ic0 rfl (zc_ne0 h23) ?_
              refine s_const rfl ?_
              exact s_retZ (z := false) rfl rfl hT22 (fun _ _ h => h)
            · refine s_ic1 rfl (zc_ne1 h23) ?_
              refine s_aload rfl rfl ?_
              refine s_dup rfl rfl ?_
              refine s_getI rfl hT22 ho1 ?_
              refine s_const rfl ?_
              refine s_bin rfl rfl ?_
              refine s_putI rfl hT22 ho1 rfl (fun w24 hT24 => ?_)
              refine s_const rfl ?_
              exact s_retZ (z := true) rfl rfl hT24 (fun _ _ h => h)
  · refine s_if1 rfl (zc_lt1 h2) ?_
    refine s_aload rfl rfl ?_
    refine s_get6 rfl hT ho0 ?_
    refine s_const rfl ?_
    refine s_callZ [.ref 1, .int 4] [] rfl rfl (Nat.le_of_ble_eq_true rfl) (ev_36 (d := d) (by omega) hT ist_1) (fun r26 w25 hT25 => ?_)
    exact s_retZ (z := r26) rfl rfl hT25 (fun _ _ h => h)
/-- RugReader$HouseText.tuftHere(LRugReader$House;)I -/
def sh_46 (o0 : Nat) (o1 : Nat) (w : Wd) : Option (Int32 × Wd) := cl (sh_38 1 0 ((wI w o1 0) - 1) w) (fun r2 w1 => if r2 = (-1) then (some ((-1), w1)) else (cl (sh_39 1 0 ((wI w1 o1 1) - 1) w1) (fun r5 w4 => lt (if r5 = (-1) then (-1) else ((r5 * 12) + r2) : Int32) (fun z6 => some (z6, w4)))))
set_option maxRecDepth 20000 in
set_option maxHeartbeats 4000000 in
theorem ev_46 {d : Nat} (hd : 4 ≤ d) {o0 : Nat} {o1 : Nat} {w : Wd} (hT : TY w) (ho0 : ist o0 2) (ho1 : ist o1 1) : sp (sh_46 o0 o1 w) (fun r w' => TY w' ∧ Ev d 46 [.ref o0, .ref o1] w (cvI r) w') := by
  obtain ⟨d, rfl⟩ : ∃ d', d = d' + 1 := ⟨d - 1, by omega⟩
  refine ev_of (M := M46) zin_46 rfl (by decide) rfl (Nat.le_of_ble_eq_true rfl) (Or.inr ⟨o0, _, rfl, ho0⟩) hT ?_
  show sp _ (PP (Ev d) M46 (KR cvI) (0, [(0, .ref o0), (1, .ref o1)], [], w))
  unfold sh_46
  refine s_aload rfl rfl ?_
  refine s_get6 rfl hT ho0 ?_
  refine s_const rfl ?_
  refine s_aload rfl rfl ?_
  refine s_getI rfl hT ho1 ?_
  refine s_const rfl ?_
  refine s_bin rfl rfl ?_
  refine s_callI [.ref 1, .int 0, .int ((wI w o1 0) - 1)] [] rfl rfl (Nat.le_of_ble_eq_true rfl) (ev_38 (d := d) (by omega) hT ist_1) (fun r2 w1 hT1 => ?_)
  refine s_istoreF [(0, .ref o0), (1, .ref o1), (2, .int r2)] rfl (subl_c rfl (subl_c rfl (subl_c rfl (subl_n)))) ?_
  refine s_iload rfl rfl ?_
  refine s_const rfl ?_
  refine sp_ite (fun h3 => ?_) (fun h3 => ?_)
  · refine s_ic0 rfl (zc_ne0 h3) ?_
    refine s_const rfl ?_
    exact s_retI rfl rfl hT1 (fun _ _ h => h)
  · refine s_ic1 rfl (zc_ne1 h3) ?_
    refine s_aload rfl rfl ?_
    refine s_get6 rfl hT1 ho0 ?_
    refine s_const rfl ?_
    refine s_aload rfl rfl ?_
    refine s_getI rfl hT1 ho1 ?_
    refine s_const rfl ?_
    refine s_bin rfl rfl ?_
    refine s_callI [.ref 1, .int 0, .int ((wI w1 o1 1) - 1)] [] rfl rfl (Nat.le_of_ble_eq_true rfl) (ev_39 (d := d) (by omega) hT1 ist_1) (fun r5 w4 hT4 => ?_)
    refine s_istoreF [(2, .int r2), (3, .int r5)] rfl (subl_c rfl (subl_c rfl (subl_n))) ?_
    refine s_iload rfl rfl ?_
    refine s_const rfl ?_
    refine sp_lt (fun z6 hz6 => ?_)
    refine s_dia (52, [(2, .int r2), (3, .int r5)], [.int z6], w4) ?_ (fun hk7 => ?_)
    · exact s_retI rfl rfl hT4 (fun _ _ h => h)
    · by_cases h8 : r5 = (-1)
      · refine s_ic0 rfl (zc_ne0 h8) ?_
        refine s_const rfl ?_
        refine s_goto rfl ?_
        refine s_cong ?_ hk7
        (rw [hz6, if_pos h8])
      · refine s_ic1 rfl (zc_ne1 h8) ?_
        refine s_iload rfl rfl ?_
        refine s_const rfl ?_
        refine s_bin rfl rfl ?_
        refine s_iload rfl rfl ?_
        refine s_bin rfl rfl ?_
        refine s_cong ?_ hk7
        (rw [hz6, if_neg h8])
/-- RugReader$HouseText.takeWall(LRugReader$House;)Z -/
def sh_45 (o0 : Nat) (o1 : Nat) (w : Wd) : Option (Bool × Wd) := if 30 ≤ wI w o1 5 then (cl (sh_36 1 4 w) (fun r3 w2 => some (r3, w2))) else (cl (sh_37 1 w) (fun _ w4 => cl (sh_46 o0 o1 w4) (fun r7 w6 => if 0 ≤ r7 then (if 144 ≤ r7 then (some (false, w6)) else (gd (ib r7 144) (if wI w6 (o1 + 8) (ix r7) = 0 then (gd (ib r7 144) (stI w6 (o1 + 8) (ix r7) 1 (fun w11 => stI w11 o1 5 ((wI w11 o1 5) + 1) (fun w12 => cl (sh_37 1 w12) (fun _ w13 => some (true, w13)))))) else (cl (sh_36 1 3 w6) (fun r16 w15 => some (r16, w15)))))) else (some (false, w6)))))
set_option maxRecDepth 20000 in
set_option maxHeartbeats 4000000 in
theorem ev_45 {d : Nat} (hd : 5 ≤ d) {o0 : Nat} {o1 : Nat} {w : Wd} (hT : TY w) (ho0 : ist o0 2) (ho1 : ist o1 1) : sp (sh_45 o0 o1 w) (fun r w' => TY w' ∧ Ev d 45 [.ref o0, .ref o1] w (cvZ r) w') := by
  obtain ⟨d, rfl⟩ : ∃ d', d = d' + 1 := ⟨d - 1, by omega⟩
  refine ev_of (M := M45) zin_45 rfl (by decide) rfl (Nat.le_of_ble_eq_true rfl) (Or.inr ⟨o0, _, rfl, ho0⟩) hT ?_
  show sp _ (PP (Ev d) M45 (KR cvZ) (0, [(0, .ref o0), (1, .ref o1)], [], w))
  unfold sh_45
  refine s_aload rfl rfl ?_
  refine s_getI rfl hT ho1 ?_
  refine s_const rfl ?_
  refine sp_ite (fun h1 => ?_) (fun h1 => ?_)
  · refine s_ic0 rfl (zc_lt0 h1) ?_
    refine s_aload rfl rfl ?_
    refine s_get6 rfl hT ho0 ?_
    refine s_const rfl ?_
    refine s_callZ [.ref 1, .int 4] [] rfl rfl (Nat.le_of_ble_eq_true rfl) (ev_36 (d := d) (by omega) hT ist_1) (fun r3 w2 hT2 => ?_)
    exact s_retZ (z := r3) rfl rfl hT2 (fun _ _ h => h)
  · refine s_ic1 rfl (zc_lt1 h1) ?_
    refine s_aload rfl rfl ?_
    refine s_get6 rfl hT ho0 ?_
    refine s_callV [.ref 1] [] rfl rfl (Nat.le_of_ble_eq_true rfl) (ev_37 (d := d) (by omega) hT ist_1) (fun _ w4 hT4 => ?_)
    refine s_aload rfl rfl ?_
    refine s_aload rfl rfl ?_
    refine s_callI [.ref o0, .ref o1] [] rfl rfl (Nat.le_of_ble_eq_true rfl) (ev_46 (d := d) (by omega) hT4 ho0 ho1) (fun r7 w6 hT6 => ?_)
    refine s_istoreF [(0, .ref o0), (1, .ref o1), (2, .int r7)] rfl (subl_c rfl (subl_c rfl (subl_c rfl (subl_n)))) ?_
    refine s_iload rfl rfl ?_
    refine sp_ite (fun h8 => ?_) (fun h8 => ?_)
    · refine s_if0 rfl (zc_lt0 h8) ?_
      refine s_iload rfl rfl ?_
      refine s_const rfl ?_
      refine sp_ite (fun h9 => ?_) (fun h9 => ?_)
      · refine s_ic0 rfl (zc_lt0 h9) ?_
        refine s_const rfl ?_
        exact s_retZ (z := false) rfl rfl hT6 (fun _ _ h => h)
      · refine s_ic1 rfl (zc_lt1 h9) ?_
        refine s_aload rfl rfl ?_
        refine s_getF rfl hT6 ho1 rfl ?_
        refine s_iload rfl rfl ?_
        refine s_bald rfl hT6 (of_1_14 ho1) (Or.inr rfl) ?_
        refine sp_ite (fun h10 => ?_) (fun h10 => ?_)
        · refine s_if1 rfl (zc_eq1 h10) ?_
          refine s_aload rfl rfl ?_
          refine s_getF rfl hT6 ho1 rfl ?_
          refine s_iload rfl rfl ?_
          refine s_const rfl ?_
          refine s_zast rfl hT6 (of_1_14 ho1) rfl (fun w11 hT11 => ?_)
          refine s_aload rfl rfl ?_
          refine s_dup rfl rfl ?_
          refine s_getI rfl hT11 ho1 ?_
          refine s_const rfl ?_
          refine s_bin rfl rfl ?_
          refine s_putI rfl hT11 ho1 rfl (fun w12 hT12 => ?_)
          refine s_aload rfl rfl ?_
          refine s_get6 rfl hT12 ho0 ?_
          refine s_callV [.ref 1] [] rfl rfl (Nat.le_of_ble_eq_true rfl) (ev_37 (d := d) (by omega) hT12 ist_1) (fun _ w13 hT13 => ?_)
          refine s_const rfl ?_
          exact s_retZ (z := true) rfl rfl hT13 (fun _ _ h => h)
        · refine s_if0 rfl (zc_eq0 h10) ?_
          refine s_aload rfl rfl ?_
          refine s_get6 rfl hT6 ho0 ?_
          refine s_const rfl ?_
          refine s_callZ [.ref 1, .int 3] [] rfl rfl (Nat.le_of_ble_eq_true rfl) (ev_36 (d := d) (by omega) hT6 ist_1) (fun r16 w15 hT15 => ?_)
          exact s_retZ (z := r16) rfl rfl hT15 (fun _ _ h => h)
    · refine s_if1 rfl (zc_lt1 h8) ?_
      refine s_const rfl ?_
      exact s_retZ (z := false) rfl rfl hT6 (fun _ _ h => h)
/-- RugReader$House.isDoor(I)Z -/
def sh_48 (o0 : Nat) (p1 : Int32) (w : Wd) : Option (Bool × Wd) := itM (fun (v2_1 : Int32) (w3 : Wd) => if v2_1 < wI w3 o0 6 then (if v2_1 < 8 then (gd (ib v2_1 8) (if wI w3 (o0 + 9) (ix v2_1) = p1 then (some (.inr (true), w3)) else (lt (v2_1 + 1 : Int32) (fun v2_7 => some (.inl v2_7, w3))))) else (some (.inr (false), w3))) else (some (.inr (false), w3))) FU 0 w
set_option maxRecDepth 20000 in
set_option maxHeartbeats 4000000 in
theorem ev_48 {d : Nat} (hd : 1 ≤ d) {o0 : Nat} {p1 : Int32} {w : Wd} (hT : TY w) (ho0 : ist o0 1) : sp (sh_48 o0 p1 w) (fun r w' => TY w' ∧ Ev d 48 [.ref o0, .int p1] w (cvZ r) w') := by
  obtain ⟨d, rfl⟩ : ∃ d', d = d' + 1 := ⟨d - 1, by omega⟩
  refine ev_of (M := M48) zin_48 rfl (by decide) rfl (Nat.le_of_ble_eq_true rfl) (Or.inr ⟨o0, _, rfl, ho0⟩) hT ?_
  show sp _ (PP (Ev d) M48 (KR cvZ) (0, [(0, .ref o0), (1, .int p1)], [], w))
  unfold sh_48
  refine s_const rfl ?_
  refine s_istoreF [(0, .ref o0), (1, .int p1), (2, .int 0)] rfl (subl_c rfl (subl_c rfl (subl_c rfl (subl_n)))) ?_
  let lvL2 : Int32 → List (Nat × Value) := fun s8 => [(0, .ref o0), (1, .int p1), (2, .int s8)]
  refine s_loop lvL2 (subl_c rfl (subl_c rfl (subl_c rfl (subl_n)))) hT (fun v2_1 w3 hT3 => ?_)
  show sp _ (PP _ _ _ (2, [(0, .ref o0), (1, .int p1), (2, .int v2_1)], [], w3))
  refine s_iload rfl rfl ?_
  refine s_aload rfl rfl ?_
  refine s_getI rfl hT3 ho0 ?_
  refine sp_ite (fun h4 => ?_) (fun h4 => ?_)
  · refine s_ic0 rfl (zc_ge0 h4) ?_
    refine s_iload rfl rfl ?_
    refine s_const rfl ?_
    refine sp_ite (fun h5 => ?_) (fun h5 => ?_)
    · refine s_ic0 rfl (zc_ge0 h5) ?_
      refine s_aload rfl rfl ?_
      refine s_getF rfl hT3 ho0 rfl ?_
      refine s_iload rfl rfl ?_
      refine s_iald rfl hT3 (of_1_15 ho0) ?_
      refine s_iload rfl rfl ?_
      refine sp_ite (fun h6 => ?_) (fun h6 => ?_)
      · refine s_ic0 rfl (zc_ne0 h6) ?_
        refine s_const rfl ?_
        exact s_retZ (z := true) rfl rfl hT3 (fun _ _ h => h)
      · refine s_ic1 rfl (zc_ne1 h6) ?_
        refine s_iincF (fun v2_7 => [(0, .ref o0), (1, .int p1), (2, .int v2_7)]) rfl rfl (fun _ => subl_c rfl (subl_c rfl (subl_c rfl (subl_n)))) (fun v2_7 => ?_)
        refine s_goto rfl ?_
        exact s_back (lvL := lvL2) (s' := v2_7) (subl_c rfl (subl_c rfl (subl_c rfl (subl_n)))) hT3 (fun _ _ h => h)
    · refine s_ic1 rfl (zc_ge1 h5) ?_
      refine s_const rfl ?_
      exact s_retZ (z := false) rfl rfl hT3 (fun _ _ h => h)
  · refine s_ic1 rfl (zc_ge1 h4) ?_
    refine s_const rfl ?_
    exact s_retZ (z := false) rfl rfl hT3 (fun _ _ h => h)
/-- RugReader$HouseText.takeDoor(LRugReader$House;)Z -/
def sh_47 (o0 : Nat) (o1 : Nat) (w : Wd) : Option (Bool × Wd) := lt (wI w o1 6 : Int32) (fun v2_1 => if 0 ≤ v2_1 then (if 8 ≤ v2_1 then (cl (sh_36 1 4 w) (fun r5 w4 => some (r5, w4))) else (cl (sh_37 1 w) (fun _ w6 => cl (sh_46 o0 o1 w6) (fun r9 w8 => if r9 = (-1) then (some (false, w8)) else (cl (sh_48 o1 r9 w8) (fun r12 w11 => if r12 = true then (cl (sh_36 1 3 w11) (fun r15 w14 => some (r15, w14))) else (gd (ib v2_1 8) (stI w11 (o1 + 9) (ix v2_1) r9 (fun w16 => stI w16 o1 6 ((wI w16 o1 6) + 1) (fun w17 => cl (sh_37 1 w17) (fun _ w18 => some (true, w18)))))))))))) else (cl (sh_36 1 4 w) (fun r21 w20 => some (r21, w20))))
set_option maxRecDepth 20000 in
set_option maxHeartbeats 4000000 in
theorem ev_47 {d : Nat} (hd : 5 ≤ d) {o0 : Nat} {o1 : Nat} {w : Wd} (hT : TY w) (ho0 : ist o0 2) (ho1 : ist o1 1) : sp (sh_47 o0 o1 w) (fun r w' => TY w' ∧ Ev d 47 [.ref o0, .ref o1] w (cvZ r) w') := by
  obtain ⟨d, rfl⟩ : ∃ d', d = d' + 1 := ⟨d - 1, by omega⟩
  refine ev_of (M := M47) zin_47 rfl (by decide) rfl (Nat.le_of_ble_eq_true rfl) (Or.inr ⟨o0, _, rfl, ho0⟩) hT ?_
  show sp _ (PP (Ev d) M47 (KR cvZ) (0, [(0, .ref o0), (1, .ref o1)], [], w))
  unfold sh_47
  refine s_aload rfl rfl ?_
  refine s_getI rfl hT ho1 ?_
  refine s_nmI (fun v2_1 => ?_)
  refine s_istoreF [(0, .ref o0), (1, .ref o1), (2, .int v2_1)] rfl (subl_c rfl (subl_c rfl (subl_c rfl (subl_n)))) ?_
  refine s_iload rfl rfl ?_
  refine sp_ite (fun h2 => ?_) (fun h2 => ?_)
  · refine s_if0 rfl (zc_lt0 h2) ?_
    refine s_iload rfl rfl ?_
    refine s_const rfl ?_
    refine sp_ite (fun h3 => ?_) (fun h3 => ?_)
    · refine s_ic0 rfl (zc_lt0 h3) ?_
      refine s_aload rfl rfl ?_
      refine s_get6 rfl hT ho0 ?_
      refine s_const rfl ?_
      refine s_callZ [.ref 1, .int 4] [] rfl rfl (Nat.le_of_ble_eq_true rfl) (ev_36 (d := d) (by omega) hT ist_1) (fun r5 w4 hT4 => ?_)
      exact s_retZ (z := r5) rfl rfl hT4 (fun _ _ h => h)
    · refine s_ic1 rfl (zc_lt1 h3) ?_
      refine s_aload rfl rfl ?_
      refine s_get6 rfl hT ho0 ?_
      refine s_callV [.ref 1] [] rfl rfl (Nat.le_of_ble_eq_true rfl) (ev_37 (d := d) (by omega) hT ist_1) (fun _ w6 hT6 => ?_)
      refine s_aload rfl rfl ?_
      refine s_aload rfl rfl ?_
      refine s_callI [.ref o0, .ref o1] [] rfl rfl (Nat.le_of_ble_eq_true rfl) (ev_46 (d := d) (by omega) hT6 ho0 ho1) (fun r9 w8 hT8 => ?_)
      refine s_istoreF [(0, .ref o0), (1, .ref o1), (2, .int v2_1), (3, .int r9)] rfl (subl_c rfl (subl_c rfl (subl_c rfl (subl_c rfl (subl_n))))) ?_
      refine s_iload rfl rfl ?_
      refine s_const rfl ?_
      refine sp_ite (fun h10 => ?_) (fun h10 => ?_)
      · refine s_ic0 rfl (zc_ne0 h10) ?_
        refine s_const rfl ?_
        exact s_retZ (z := false) rfl rfl hT8 (fun _ _ h => h)
      · refine s_ic1 rfl (zc_ne1 h10) ?_
        refine s_aload rfl rfl ?_
        refine s_iload rfl rfl ?_
        refine s_callZ [.ref o1, .int r9] [] rfl rfl (Nat.le_of_ble_eq_true rfl) (ev_48 (d := d) (by omega) hT8 ho1) (fun r12 w11 hT11 => ?_)
        refine sp_ite (fun h13 => ?_) (fun h13 => ?_)
        · refine s_if0 rfl (zb_eq0 h13) ?_
          refine s_aload rfl rfl ?_
          refine s_get6 rfl hT11 ho0 ?_
          refine s_const rfl ?_
          refine s_callZ [.ref 1, .int 3] [] rfl rfl (Nat.le_of_ble_eq_true rfl) (ev_36 (d := d) (by omega) hT11 ist_1) (fun r15 w14 hT14 => ?_)
          exact s_retZ (z := r15) rfl rfl hT14 (fun _ _ h => h)
        · refine s_if1 rfl (zb_eq1 h13) ?_
          refine s_aload rfl rfl ?_
          refine s_getF rfl hT11 ho1 rfl ?_
          refine s_iload rfl rfl ?_
          refine s_iload rfl rfl ?_
          refine s_iast rfl hT11 (of_1_15 ho1) (fun w16 hT16 => ?_)
          refine s_aload rfl rfl ?_
          refine s_dup rfl rfl ?_
          refine s_getI rfl hT16 ho1 ?_
          refine s_const rfl ?_
          refine s_bin rfl rfl ?_
          refine s_putI rfl hT16 ho1 rfl (fun w17 hT17 => ?_)
          refine s_aload rfl rfl ?_
          refine s_get6 rfl hT17 ho0 ?_
          refine s_callV [.ref 1] [] rfl rfl (Nat.le_of_ble_eq_true rfl) (ev_37 (d := d) (by omega) hT17 ist_1) (fun _ w18 hT18 => ?_)
          refine s_const rfl ?_
          exact s_retZ (z := true) rfl rfl hT18 (fun _ _ h => h)
  · refine s_if1 rfl (zc_lt1 h2) ?_
    refine s_aload rfl rfl ?_
    refine s_get6 rfl hT ho0 ?_
    refine s_const rfl ?_
    refine s_callZ [.ref 1, .int 4] [] rfl rfl (Nat.le_of_ble_eq_true rfl) (ev_36 (d := d) (by omega) hT ist_1) (fun r21 w20 hT20 => ?_)
    exact s_retZ (z := r21) rfl rfl hT20 (fun _ _ h => h)
