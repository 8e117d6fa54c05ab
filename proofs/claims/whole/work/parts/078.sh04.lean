/-! printed by program (wip/whole/gen/sh.py): the methods as programs over worlds, and that the small machine does what they say -/
/-- RugReader$Walk.judge(LRugReader$House;)I -/
def sh_132 (o0 : Nat) (o1 : Nat) (w : Wd) : Option (Int32 × Wd) := stI w o0 6 1 (fun w1 => stI w1 o0 7 0 (fun w2 => stI w2 o0 8 0 (fun w3 => stI w3 o0 9 0 (fun w4 => stI w4 o0 10 (-1) (fun w5 => cl (sh_50 o1 (wI w5 o0 1) w5) (fun r7 w6 => if r7 = true then (stI w6 o0 7 1 (fun w9 => some (0, w9))) else (stI w6 o0 10 (wI w6 o0 1) (fun w10 => itM (fun (v2_11 : Int32) (w13 : Wd) => if v2_11 < wI w13 o0 2 then (if v2_11 < 30 then (gd (ib v2_11 30) (gd (ib v2_11 30) (cl (sh_54 o1 (wI w13 o0 10) (wI w13 (o0 + 1) (ix v2_11)) (wI w13 (o0 + 2) (ix v2_11)) w13) (fun r17 w16 => jn (fun (t19 : Int32) (w20 : Wd) => stI w20 o0 7 t19 (fun w21 => if wI w21 o0 7 = 0 then (gd (ib v2_11 30) (stI w21 o0 8 ((wI w21 o0 8) + (wI w21 (o0 + 2) (ix v2_11))) (fun w23 => gd (ib v2_11 30) (stI w23 o0 9 ((wI w23 o0 9) + (wI w23 (o0 + 3) (ix v2_11))) (fun w24 => stI w24 o0 10 r17 (fun w25 => lt (v2_11 + 1 : Int32) (fun v2_26 => some (.inl v2_26, w25)))))))) else (some (.inr (v2_11 + 1), w21)))) (fun j18 => if r17 = (-1) then (j18 1 w16) else (cl (sh_133 o0 o1 v2_11 w16) (fun r29 w28 => j18 r29 w28))))))) else (some (.inr ((-1)), w13))) else (some (.inr ((-1)), w13))) FU 0 w10))))))))
set_option maxRecDepth 20000 in
set_option maxHeartbeats 4000000 in
theorem ev_132 {d : Nat} (hd : 4 ≤ d) {o0 : Nat} {o1 : Nat} {w : Wd} (hT : TY w) (ho0 : ist o0 8) (ho1 : ist o1 1) : sp (sh_132 o0 o1 w) (fun r w' => TY w' ∧ Ev d 132 [.ref o0, .ref o1] w (cvI r) w') := by
  obtain ⟨d, rfl⟩ : ∃ d', d = d' + 1 := ⟨d - 1, by omega⟩
  refine ev_of (M := M132) zin_132 rfl (by decide) rfl (Nat.le_of_ble_eq_true rfl) (Or.inr ⟨o0, _, rfl, ho0⟩) hT ?_
  show sp _ (PP (Ev d) M132 (KR cvI) (0, [(0, .ref o0), (1, .ref o1)], [], w))
  unfold sh_132
  refine s_aload rfl rfl ?_
  refine s_const rfl ?_
  refine s_putZ rfl hT ho0 rfl (Or.inr rfl) (fun w1 hT1 => ?_)
  refine s_aload rfl rfl ?_
  refine s_const rfl ?_
  refine s_putI rfl hT1 ho0 rfl (fun w2 hT2 => ?_)
  refine s_aload rfl rfl ?_
  refine s_const rfl ?_
  refine s_putI rfl hT2 ho0 rfl (fun w3 hT3 => ?_)
  refine s_aload rfl rfl ?_
  refine s_const rfl ?_
  refine s_putI rfl hT3 ho0 rfl (fun w4 hT4 => ?_)
  refine s_aload rfl rfl ?_
  refine s_const rfl ?_
  refine s_putI rfl hT4 ho0 rfl (fun w5 hT5 => ?_)
  refine s_aload rfl rfl ?_
  refine s_aload rfl rfl ?_
  refine s_getI rfl hT5 ho0 ?_
  refine s_callZ [.ref o1, .int (wI w5 o0 1)] [] rfl rfl (Nat.le_of_ble_eq_true rfl) (ev_50 (d := d) (by omega) hT5 ho1) (fun r7 w6 hT6 => ?_)
  refine sp_ite (fun h8 => ?_) (fun h8 => ?_)
  · refine s_if0 rfl (zb_eq0 h8) ?_
    refine s_aload rfl rfl ?_
    refine s_const rfl ?_
    refine s_putI rfl hT6 ho0 rfl (fun w9 hT9 => ?_)
    refine s_const rfl ?_
    exact s_retI rfl rfl hT9 (fun _ _ h => h)
  · refine s_if1 rfl (zb_eq1 h8) ?_
    refine s_aload rfl rfl ?_
    refine s_aload rfl rfl ?_
    refine s_getI rfl hT6 ho0 ?_
    refine s_putI rfl hT6 ho0 rfl (fun w10 hT10 => ?_)
    refine s_const rfl ?_
    refine s_istoreF [(0, .ref o0), (1, .ref o1), (2, .int 0)] rfl (subl_c rfl (subl_c rfl (subl_c rfl (subl_n)))) ?_
    let lvL12 : Int32 → List (Nat × Value) := fun s31 => [(0, .ref o0), (1, .ref o1), (2, .int s31)]
    refine s_loop lvL12 (subl_c rfl (subl_c rfl (subl_c rfl (subl_n)))) hT10 (fun v2_11 w13 hT13 => ?_)
    show sp _ (PP _ _ _ (53, [(0, .ref o0), (1, .ref o1), (2, .int v2_11)], [], w13))
    refine s_iload rfl rfl ?_
    refine s_aload rfl rfl ?_
    refine s_getI rfl hT13 ho0 ?_
    refine sp_ite (fun h14 => ?_) (fun h14 => ?_)
    · refine s_ic0 rfl (zc_ge0 h14) ?_
      refine s_iload rfl rfl ?_
      refine s_const rfl ?_
      refine sp_ite (fun h15 => ?_) (fun h15 => ?_)
      · refine s_ic0 rfl (zc_ge0 h15) ?_
        refine s_aload rfl rfl ?_
        refine s_aload rfl rfl ?_
        refine s_getI rfl hT13 ho0 ?_
        refine s_aload rfl rfl ?_
        refine s_getF rfl hT13 ho0 rfl ?_
        refine s_iload rfl rfl ?_
        refine s_iald rfl hT13 (of_8_3 ho0) ?_
        refine s_aload rfl rfl ?_
        refine s_getF rfl hT13 ho0 rfl ?_
        refine s_iload rfl rfl ?_
        refine s_iald rfl hT13 (of_8_4 ho0) ?_
        refine s_callI [.ref o1, .int (wI w13 o0 10), .int (wI w13 (o0 + 1) (ix v2_11)), .int (wI w13 (o0 + 2) (ix v2_11))] [] rfl rfl (Nat.le_of_ble_eq_true rfl) (ev_54 (d := d) (by omega) hT13 ho1) (fun r17 w16 hT16 => ?_)
        refine s_istoreF [(0, .ref o0), (1, .ref o1), (2, .int v2_11), (3, .int r17)] rfl (subl_c rfl (subl_c rfl (subl_c rfl (subl_c rfl (subl_n))))) ?_
        refine s_aload rfl rfl ?_
        refine s_iload rfl rfl ?_
        refine s_const rfl ?_
        refine s_jnP (fun (s30 : Int32) w => (104, [(0, .ref o0), (1, .ref o1), (2, .int v2_11), (3, .int r17)], [.int s30, .ref o0], w)) (fun t19 w20 hT20 => ?_) (fun j18 hj18 => ?_)
        · show sp _ (PP _ _ _ (104, [(0, .ref o0), (1, .ref o1), (2, .int v2_11), (3, .int r17)], [.int t19, .ref o0], w20))
          refine s_putI rfl hT20 ho0 rfl (fun w21 hT21 => ?_)
          refine s_aload rfl rfl ?_
          refine s_getI rfl hT21 ho0 ?_
          refine sp_ite (fun h22 => ?_) (fun h22 => ?_)
          · refine s_if1 rfl (zc_eq1 h22) ?_
            refine s_aload rfl rfl ?_
            refine s_dup rfl rfl ?_
            refine s_getI rfl hT21 ho0 ?_
            refine s_aload rfl rfl ?_
            refine s_getF rfl hT21 ho0 rfl ?_
            refine s_iload rfl rfl ?_
            refine s_iald rfl hT21 (of_8_4 ho0) ?_
            refine s_bin rfl rfl ?_
            refine s_putI rfl hT21 ho0 rfl (fun w23 hT23 => ?_)
            refine s_aload rfl rfl ?_
            refine s_dup rfl rfl ?_
            refine s_getI rfl hT23 ho0 ?_
            refine s_aload rfl rfl ?_
            refine s_getF rfl hT23 ho0 rfl ?_
            refine s_iload rfl rfl ?_
            refine s_iald rfl hT23 (of_8_5 ho0) ?_
            refine s_bin rfl rfl ?_
            refine s_putI rfl hT23 ho0 rfl (fun w24 hT24 => ?_)
            refine s_aload rfl rfl ?_
            refine s_iload rfl rfl ?_
            refine s_putI rfl hT24 ho0 rfl (fun w25 hT25 => ?_)
            refine s_iincF (fun v2_26 => [(0, .ref o0), (1, .ref o1), (2, .int v2_26)]) rfl rfl (fun _ => subl_c rfl (subl_c rfl (subl_c rfl (subl_n)))) (fun v2_26 => ?_)
            refine s_goto rfl ?_
            exact s_back (lvL := lvL12) (s' := v2_26) (subl_c rfl (subl_c rfl (subl_c rfl (subl_n)))) hT25 (fun _ _ h => h)
          · refine s_if0 rfl (zc_eq0 h22) ?_
            refine s_iload rfl rfl ?_
            refine s_const rfl ?_
            refine s_bin rfl rfl ?_
            exact s_retI rfl rfl hT21 (fun _ _ h => h)
        · refine sp_ite (fun h27 => ?_) (fun h27 => ?_)
          · refine s_ic0 rfl (zc_ne0 h27) ?_
            refine s_const rfl ?_
            refine s_goto rfl ?_
            exact s_fgt _ (subl_c rfl (subl_c rfl (subl_c rfl (subl_c rfl (subl_n))))) (hj18 1 w16 hT16)
          · refine s_ic1 rfl (zc_ne1 h27) ?_
            refine s_aload rfl rfl ?_
            refine s_aload rfl rfl ?_
            refine s_iload rfl rfl ?_
            refine s_callI [.ref o0, .ref o1, .int v2_11] [.ref o0] rfl rfl (Nat.le_of_ble_eq_true rfl) (ev_133 (d := d) (by omega) hT16 ho0 ho1) (fun r29 w28 hT28 => ?_)
            exact s_fgt _ (subl_c rfl (subl_c rfl (subl_c rfl (subl_c rfl (subl_n))))) (hj18 r29 w28 hT28)
      · refine s_ic1 rfl (zc_ge1 h15) ?_
        refine s_const rfl ?_
        exact s_retI rfl rfl hT13 (fun _ _ h => h)
    · refine s_ic1 rfl (zc_ge1 h14) ?_
      refine s_const rfl ?_
      exact s_retI rfl rfl hT13 (fun _ _ h => h)
/-- RugReader.walk()I -/
def sh_128 (o0 : Nat) (w : Wd) : Option (Int32 × Wd) := der (wR w o0 2) (fun a1 => cl (sh_129 (o0 + 60) (o0 + 1) a1 w) (fun r3 w2 => stI w2 (o0 + 1) 1 0 (fun w4 => if r3 = true then (der (wR w4 o0 2) (fun a6 => cl (sh_132 (o0 + 60) a6 w4) (fun r8 w7 => some (r8, w7)))) else (some ((-2) - (wI w4 (o0 + 1) 3), w4)))))
set_option maxRecDepth 20000 in
set_option maxHeartbeats 4000000 in
theorem ev_128 {d : Nat} (hd : 7 ≤ d) {o0 : Nat} {w : Wd} (hT : TY w) (ho0 : ist o0 9) : sp (sh_128 o0 w) (fun r w' => TY w' ∧ Ev d 128 [.ref o0] w (cvI r) w') := by
  obtain ⟨d, rfl⟩ : ∃ d', d = d' + 1 := ⟨d - 1, by omega⟩
  refine ev_of (M := M128) zin_128 rfl (by decide) rfl (Nat.le_of_ble_eq_true rfl) (Or.inr ⟨o0, _, rfl, ho0⟩) hT ?_
  show sp _ (PP (Ev d) M128 (KR cvI) (0, [(0, .ref o0)], [], w))
  unfold sh_128
  refine s_aload rfl rfl ?_
  refine s_getF rfl hT ho0 rfl ?_
  refine s_aload rfl rfl ?_
  refine s_getF rfl hT ho0 rfl ?_
  refine s_aload rfl rfl ?_
  refine s_getD rfl hT ho0 (by decide) rfl (fun a1 ha1 => ?_)
  refine s_callZ [.ref (o0 + 60), .ref (o0 + 1), .ref a1] [] rfl rfl (Nat.le_of_ble_eq_true rfl) (ev_129 (d := d) (by omega) hT (of_9_15 ho0) (of_9_0 ho0) ha1) (fun r3 w2 hT2 => ?_)
  refine s_istoreF [(0, .ref o0), (1, .int (bi r3))] rfl (subl_c rfl (subl_c rfl (subl_n))) ?_
  refine s_aload rfl rfl ?_
  refine s_getF rfl hT2 ho0 rfl ?_
  refine s_const rfl ?_
  refine s_putI rfl hT2 (of_9_0 ho0) rfl (fun w4 hT4 => ?_)
  refine s_iload rfl rfl ?_
  refine sp_ite (fun h5 => ?_) (fun h5 => ?_)
  · refine s_if0 rfl (zb_eq0 h5) ?_
    refine s_aload rfl rfl ?_
    refine s_getF rfl hT4 ho0 rfl ?_
    refine s_aload rfl rfl ?_
    refine s_getD rfl hT4 ho0 (by decide) rfl (fun a6 ha6 => ?_)
    refine s_callI [.ref (o0 + 60), .ref a6] [] rfl rfl (Nat.le_of_ble_eq_true rfl) (ev_132 (d := d) (by omega) hT4 (of_9_15 ho0) ha6) (fun r8 w7 hT7 => ?_)
    refine s_goto rfl ?_
    exact s_retI rfl rfl hT7 (fun _ _ h => h)
  · refine s_if1 rfl (zb_eq1 h5) ?_
    refine s_const rfl ?_
    refine s_aload rfl rfl ?_
    refine s_getF rfl hT4 ho0 rfl ?_
    refine s_getI rfl hT4 (of_9_0 ho0) ?_
    refine s_bin rfl rfl ?_
    exact s_retI rfl rfl hT4 (fun _ _ h => h)
/-- RugReader$Walk.outcome(I)I -/
def sh_137 (o0 : Nat) (p1 : Int32) (w : Wd) : Option (Int32 × Wd) := if wI w o0 6 = 0 then (some ((-1), w)) else (swt p1 (fun i2 => if i2 = 0 then (some (wI w o0 7, w)) else (if i2 = 1 then (some (wI w o0 8, w)) else (if i2 = 2 then (some (wI w o0 9, w)) else (some (wI w o0 10, w))))) (some ((-1), w)) 4)
set_option maxRecDepth 20000 in
set_option maxHeartbeats 4000000 in
theorem ev_137 {d : Nat} (hd : 1 ≤ d) {o0 : Nat} {p1 : Int32} {w : Wd} (hT : TY w) (ho0 : ist o0 8) : sp (sh_137 o0 p1 w) (fun r w' => TY w' ∧ Ev d 137 [.ref o0, .int p1] w (cvI r) w') := by
  obtain ⟨d, rfl⟩ : ∃ d', d = d' + 1 := ⟨d - 1, by omega⟩
  refine ev_of (M := M137) zin_137 rfl (by decide) rfl (Nat.le_of_ble_eq_true rfl) (Or.inr ⟨o0, _, rfl, ho0⟩) hT ?_
  show sp _ (PP (Ev d) M137 (KR cvI) (0, [(0, .ref o0), (1, .int p1)], [], w))
  unfold sh_137
  refine s_aload rfl rfl ?_
  refine s_getI rfl hT ho0 ?_
  refine sp_ite (fun h1 => ?_) (fun h1 => ?_)
  · refine s_if0 rfl (zc_ne0 h1) ?_
    refine s_const rfl ?_
    exact s_retI rfl rfl hT (fun _ _ h => h)
  · refine s_if1 rfl (zc_ne1 h1) ?_
    refine s_iload rfl rfl ?_
    refine s_swt (fun i2 hi2 h3 h4 => ?_) (fun h5 => ?_)
    · refine sp_ite (fun e6 => ?_) (fun e6 => ?_)
      · refine s_sw rfl (zsw_in h3 (h4.trans e6) rfl (by decide) rfl) ?_
        refine s_aload rfl rfl ?_
        refine s_getI rfl hT ho0 ?_
        exact s_retI rfl rfl hT (fun _ _ h => h)
      · skip
        refine sp_ite (fun e7 => ?_) (fun e7 => ?_)
        · refine s_sw rfl (zsw_in h3 (h4.trans e7) rfl (by decide) rfl) ?_
          refine s_aload rfl rfl ?_
          refine s_getI rfl hT ho0 ?_
          exact s_retI rfl rfl hT (fun _ _ h => h)
        · skip
          refine sp_ite (fun e8 => ?_) (fun e8 => ?_)
          · refine s_sw rfl (zsw_in h3 (h4.trans e8) rfl (by decide) rfl) ?_
            refine s_aload rfl rfl ?_
            refine s_getI rfl hT ho0 ?_
            exact s_retI rfl rfl hT (fun _ _ h => h)
          · skip
            have e9 : i2 = 3 := by omega
            refine s_sw rfl (zsw_in h3 (h4.trans e9) rfl (by decide) rfl) ?_
            refine s_aload rfl rfl ?_
            refine s_getI rfl hT ho0 ?_
            exact s_retI rfl rfl hT (fun _ _ h => h)
    · refine s_sw rfl (zsw_out h5 rfl rfl) ?_
      refine s_const rfl ?_
      exact s_retI rfl rfl hT (fun _ _ h => h)
/-- RugReader.walked(I)I -/
def sh_136 (o0 : Nat) (p1 : Int32) (w : Wd) : Option (Int32 × Wd) := cl (sh_137 (o0 + 60) p1 w) (fun r2 w1 => some (r2, w1))
set_option maxRecDepth 20000 in
set_option maxHeartbeats 4000000 in
theorem ev_136 {d : Nat} (hd : 2 ≤ d) {o0 : Nat} {p1 : Int32} {w : Wd} (hT : TY w) (ho0 : ist o0 9) : sp (sh_136 o0 p1 w) (fun r w' => TY w' ∧ Ev d 136 [.ref o0, .int p1] w (cvI r) w') := by
  obtain ⟨d, rfl⟩ : ∃ d', d = d' + 1 := ⟨d - 1, by omega⟩
  refine ev_of (M := M136) zin_136 rfl (by decide) rfl (Nat.le_of_ble_eq_true rfl) (Or.inr ⟨o0, _, rfl, ho0⟩) hT ?_
  show sp _ (PP (Ev d) M136 (KR cvI) (0, [(0, .ref o0), (1, .int p1)], [], w))
  unfold sh_136
  refine s_aload rfl rfl ?_
  refine s_getF rfl hT ho0 rfl ?_
  refine s_iload rfl rfl ?_
  refine s_callI [.ref (o0 + 60), .int p1] [] rfl rfl (Nat.le_of_ble_eq_true rfl) (ev_137 (d := d) (by omega) hT (of_9_15 ho0)) (fun r2 w1 hT1 => ?_)
  exact s_retI rfl rfl hT1 (fun _ _ h => h)
/-- RugReader$House.isDoorNumber(I)Z -/
def sh_139 (o0 : Nat) (p1 : Int32) (w : Wd) : Option (Bool × Wd) := lt (if 0 ≤ p1 then (if p1 < wI w o0 6 then (if p1 < 8 then true else false) else false) else false : Bool) (fun z1 => some (z1, w))
set_option maxRecDepth 20000 in
set_option maxHeartbeats 4000000 in
theorem ev_139 {d : Nat} (hd : 1 ≤ d) {o0 : Nat} {p1 : Int32} {w : Wd} (hT : TY w) (ho0 : ist o0 1) : sp (sh_139 o0 p1 w) (fun r w' => TY w' ∧ Ev d 139 [.ref o0, .int p1] w (cvZ r) w') := by
  obtain ⟨d, rfl⟩ : ∃ d', d = d' + 1 := ⟨d - 1, by omega⟩
  refine ev_of (M := M139) zin_139 rfl (by decide) rfl (Nat.le_of_ble_eq_true rfl) (Or.inr ⟨o0, _, rfl, ho0⟩) hT ?_
  show sp _ (PP (Ev d) M139 (KR cvZ) (0, [(0, .ref o0), (1, .int p1)], [], w))
  unfold sh_139
  refine s_iload rfl rfl ?_
  refine sp_lt (fun z1 hz1 => ?_)
  refine s_dia (23, [(0, .ref o0), (1, .int p1)], [.int (bi z1)], w) ?_ (fun hk2 => ?_)
  · exact s_retZ (z := z1) rfl rfl hT (fun _ _ h => h)
  · by_cases h3 : 0 ≤ p1
    · refine s_if0 rfl (zc_lt0 h3) ?_
      refine s_iload rfl rfl ?_
      refine s_aload rfl rfl ?_
      refine s_getI rfl hT ho0 ?_
      by_cases h4 : p1 < wI w o0 6
      · refine s_ic0 rfl (zc_ge0 h4) ?_
        refine s_iload rfl rfl ?_
        refine s_const rfl ?_
        by_cases h5 : p1 < 8
        · refine s_ic0 rfl (zc_ge0 h5) ?_
          refine s_const rfl ?_
          refine s_goto rfl ?_
          refine s_cong ?_ hk2
          (rw [hz1, if_pos h3, if_pos h4, if_pos h5]; rfl)
        · refine s_ic1 rfl (zc_ge1 h5) ?_
          refine s_const rfl ?_
          refine s_cong ?_ hk2
          (rw [hz1, if_pos h3, if_pos h4, if_neg h5]; rfl)
      · refine s_ic1 rfl (zc_ge1 h4) ?_
        refine s_const rfl ?_
        refine s_cong ?_ hk2
        (rw [hz1, if_pos h3, if_neg h4]; rfl)
    · refine s_if1 rfl (zc_lt1 h3) ?_
      refine s_const rfl ?_
      refine s_cong ?_ hk2
      (rw [hz1, if_neg h3]; rfl)
/-- RugReader$House.doorTuft(I)I -/
def sh_140 (o0 : Nat) (p1 : Int32) (w : Wd) : Option (Int32 × Wd) := cl (sh_139 o0 p1 w) (fun r2 w1 => if r2 = true then (gd (ib p1 8) (some (wI w1 (o0 + 9) (ix p1), w1))) else (some ((-1), w1)))
set_option maxRecDepth 20000 in
set_option maxHeartbeats 4000000 in
theorem ev_140 {d : Nat} (hd : 2 ≤ d) {o0 : Nat} {p1 : Int32} {w : Wd} (hT : TY w) (ho0 : ist o0 1) : sp (sh_140 o0 p1 w) (fun r w' => TY w' ∧ Ev d 140 [.ref o0, .int p1] w (cvI r) w') := by
  obtain ⟨d, rfl⟩ : ∃ d', d = d' + 1 := ⟨d - 1, by omega⟩
  refine ev_of (M := M140) zin_140 rfl (by decide) rfl (Nat.le_of_ble_eq_true rfl) (Or.inr ⟨o0, _, rfl, ho0⟩) hT ?_
  show sp _ (PP (Ev d) M140 (KR cvI) (0, [(0, .ref o0), (1, .int p1)], [], w))
  unfold sh_140
  refine s_aload rfl rfl ?_
  refine s_iload rfl rfl ?_
  refine s_callZ [.ref o0, .int p1] [] rfl rfl (Nat.le_of_ble_eq_true rfl) (ev_139 (d := d) (by omega) hT ho0) (fun r2 w1 hT1 => ?_)
  refine sp_ite (fun h3 => ?_) (fun h3 => ?_)
  · refine s_if0 rfl (zb_eq0 h3) ?_
    refine s_aload rfl rfl ?_
    refine s_getF rfl hT1 ho0 rfl ?_
    refine s_iload rfl rfl ?_
    refine s_iald rfl hT1 (of_1_15 ho0) ?_
    refine s_goto rfl ?_
    exact s_retI rfl rfl hT1 (fun _ _ h => h)
  · refine s_if1 rfl (zb_eq1 h3) ?_
    refine s_const rfl ?_
    exact s_retI rfl rfl hT1 (fun _ _ h => h)
/-- RugReader$House.areBeside(II)Z -/
def sh_141 (o0 : Nat) (p1 : Int32) (p2 : Int32) (w : Wd) : Option (Bool × Wd) := itM (fun (v3_1 : Int32) (w3 : Wd) => if v3_1 < 4 then (if p2 = (-1) then (lt (v3_1 + 1 : Int32) (fun v3_6 => some (.inl v3_6, w3))) else (cl (sh_55 o0 p1 v3_1 w3) (fun r8 w7 => if r8 = p2 then (some (.inr (true), w7)) else (lt (v3_1 + 1 : Int32) (fun v3_10 => some (.inl v3_10, w7)))))) else (some (.inr (false), w3))) FU 0 w
set_option maxRecDepth 20000 in
set_option maxHeartbeats 4000000 in
theorem ev_141 {d : Nat} (hd : 3 ≤ d) {o0 : Nat} {p1 : Int32} {p2 : Int32} {w : Wd} (hT : TY w) (ho0 : ist o0 1) : sp (sh_141 o0 p1 p2 w) (fun r w' => TY w' ∧ Ev d 141 [.ref o0, .int p1, .int p2] w (cvZ r) w') := by
  obtain ⟨d, rfl⟩ : ∃ d', d = d' + 1 := ⟨d - 1, by omega⟩
  refine ev_of (M := M141) zin_141 rfl (by decide) rfl (Nat.le_of_ble_eq_true rfl) (Or.inr ⟨o0, _, rfl, ho0⟩) hT ?_
  show sp _ (PP (Ev d) M141 (KR cvZ) (0, [(0, .ref o0), (1, .int p1), (2, .int p2)], [], w))
  unfold sh_141
  refine s_const rfl ?_
  refine s_istoreF [(0, .ref o0), (1, .int p1), (2, .int p2), (3, .int 0)] rfl (subl_c rfl (subl_c rfl (subl_c rfl (subl_c rfl (subl_n))))) ?_
  let lvL2 : Int32 → List (Nat × Value) := fun s11 => [(0, .ref o0), (1, .int p1), (2, .int p2), (3, .int s11)]
  refine s_loop lvL2 (subl_c rfl (subl_c rfl (subl_c rfl (subl_c rfl (subl_n))))) hT (fun v3_1 w3 hT3 => ?_)
  show sp _ (PP _ _ _ (2, [(0, .ref o0), (1, .int p1), (2, .int p2), (3, .int v3_1)], [], w3))
  refine s_iload rfl rfl ?_
  refine s_const rfl ?_
  refine sp_ite (fun h4 => ?_) (fun h4 => ?_)
  · refine s_ic0 rfl (zc_ge0 h4) ?_
    refine s_iload rfl rfl ?_
    refine s_const rfl ?_
    refine sp_ite (fun h5 => ?_) (fun h5 => ?_)
    · refine s_ic1 rfl (zc_eq1 h5) ?_
      refine s_iincF (fun v3_6 => [(0, .ref o0), (1, .int p1), (2, .int p2), (3, .int v3_6)]) rfl rfl (fun _ => subl_c rfl (subl_c rfl (subl_c rfl (subl_c rfl (subl_n))))) (fun v3_6 => ?_)
      refine s_goto rfl ?_
      exact s_back (lvL := lvL2) (s' := v3_6) (subl_c rfl (subl_c rfl (subl_c rfl (subl_c rfl (subl_n))))) hT3 (fun _ _ h => h)
    · refine s_ic0 rfl (zc_eq0 h5) ?_
      refine s_aload rfl rfl ?_
      refine s_iload rfl rfl ?_
      refine s_iload rfl rfl ?_
      refine s_callI [.ref o0, .int p1, .int v3_1] [] rfl rfl (Nat.le_of_ble_eq_true rfl) (ev_55 (d := d) (by omega) hT3 ho0) (fun r8 w7 hT7 => ?_)
      refine s_iload rfl rfl ?_
      refine sp_ite (fun h9 => ?_) (fun h9 => ?_)
      · refine s_ic0 rfl (zc_ne0 h9) ?_
        refine s_const rfl ?_
        exact s_retZ (z := true) rfl rfl hT7 (fun _ _ h => h)
      · refine s_ic1 rfl (zc_ne1 h9) ?_
        refine s_iincF (fun v3_10 => [(0, .ref o0), (1, .int p1), (2, .int p2), (3, .int v3_10)]) rfl rfl (fun _ => subl_c rfl (subl_c rfl (subl_c rfl (subl_c rfl (subl_n))))) (fun v3_10 => ?_)
        refine s_goto rfl ?_
        exact s_back (lvL := lvL2) (s' := v3_10) (subl_c rfl (subl_c rfl (subl_c rfl (subl_c rfl (subl_n))))) hT7 (fun _ _ h => h)
  · refine s_ic1 rfl (zc_ge1 h4) ?_
    refine s_const rfl ?_
    exact s_retZ (z := false) rfl rfl hT3 (fun _ _ h => h)
/-- RugReader$Lookout.visit(II)V -/
def sh_145 (o0 : Nat) (p1 : Int32) (p2 : Int32) (w : Wd) : Option (Unit × Wd) := if 0 ≤ p1 then (if p1 < 288 then (gd (ib p1 288) (if wI w (o0 + 4) (ix p1) = (-1) then (if 0 ≤ wI w o0 7 then (if wI w o0 7 < 288 then (gd (ib p1 288) (stI w (o0 + 4) (ix p1) p2 (fun w6 => gd (ib (wI w6 o0 7) 288) (stI w6 (o0 + 5) (ix (wI w6 o0 7)) p1 (fun w7 => stI w7 o0 7 ((wI w7 o0 7) + 1) (fun w8 => some ((), w8))))))) else (some ((), w))) else (some ((), w))) else (some ((), w)))) else (some ((), w))) else (some ((), w))
set_option maxRecDepth 20000 in
set_option maxHeartbeats 4000000 in
theorem ev_145 {d : Nat} (hd : 1 ≤ d) {o0 : Nat} {p1 : Int32} {p2 : Int32} {w : Wd} (hT : TY w) (ho0 : ist o0 3) : sp (sh_145 o0 p1 p2 w) (fun r w' => TY w' ∧ Ev d 145 [.ref o0, .int p1, .int p2] w (cvV r) w') := by
  obtain ⟨d, rfl⟩ : ∃ d', d = d' + 1 := ⟨d - 1, by omega⟩
  refine ev_of (M := M145) zin_145 rfl (by decide) rfl (Nat.le_of_ble_eq_true rfl) (Or.inr ⟨o0, _, rfl, ho0⟩) hT ?_
  show sp _ (PP (Ev d) M145 (KR cvV) (0, [(0, .ref o0), (1, .int p1), (2, .int p2)], [], w))
  unfold sh_145
  refine s_iload rfl rfl ?_
  refine sp_ite (fun h1 => ?_) (fun h1 => ?_)
  · refine s_if0 rfl (zc_lt0 h1) ?_
    refine s_iload rfl rfl ?_
    refine s_const rfl ?_
    refine sp_ite (fun h2 => ?_) (fun h2 => ?_)
    · refine s_ic0 rfl (zc_ge0 h2) ?_
      refine s_aload rfl rfl ?_
      refine s_getF rfl hT ho0 rfl ?_
      refine s_iload rfl rfl ?_
      refine s_iald rfl hT (of_3_5 ho0) ?_
      refine s_const rfl ?_
      refine sp_ite (fun h3 => ?_) (fun h3 => ?_)
      · refine s_ic0 rfl (zc_ne0 h3) ?_
        refine s_aload rfl rfl ?_
        refine s_getI rfl hT ho0 ?_
        refine sp_ite (fun h4 => ?_) (fun h4 => ?_)
        · refine s_if0 rfl (zc_lt0 h4) ?_
          refine s_aload rfl rfl ?_
          refine s_getI rfl hT ho0 ?_
          refine s_const rfl ?_
          refine sp_ite (fun h5 => ?_) (fun h5 => ?_)
          · refine s_ic0 rfl (zc_ge0 h5) ?_
            refine s_aload rfl rfl ?_
            refine s_getF rfl hT ho0 rfl ?_
            refine s_iload rfl rfl ?_
            refine s_iload rfl rfl ?_
            refine s_iast rfl hT (of_3_5 ho0) (fun w6 hT6 => ?_)
            refine s_aload rfl rfl ?_
            refine s_getF rfl hT6 ho0 rfl ?_
            refine s_aload rfl rfl ?_
            refine s_getI rfl hT6 ho0 ?_
            refine s_iload rfl rfl ?_
            refine s_iast rfl hT6 (of_3_6 ho0) (fun w7 hT7 => ?_)
            refine s_aload rfl rfl ?_
            refine s_dup rfl rfl ?_
            refine s_getI rfl hT7 ho0 ?_
            refine s_const rfl ?_
            refine s_bin rfl rfl ?_
            refine s_putI rfl hT7 ho0 rfl (fun w8 hT8 => ?_)
            exact s_retV rfl rfl hT8 (fun _ _ h => h)
          · refine s_ic1 rfl (zc_ge1 h5) ?_
            exact s_retV rfl rfl hT (fun _ _ h => h)
        · refine s_if1 rfl (zc_lt1 h4) ?_
          exact s_retV rfl rfl hT (fun _ _ h => h)
      · refine s_ic1 rfl (zc_ne1 h3) ?_
        exact s_retV rfl rfl hT (fun _ _ h => h)
    · refine s_ic1 rfl (zc_ge1 h2) ?_
      exact s_retV rfl rfl hT (fun _ _ h => h)
  · refine s_if1 rfl (zc_lt1 h1) ?_
    exact s_retV rfl rfl hT (fun _ _ h => h)
/-- RugReader$Lookout.goOnFromIn(LRugReader$House;I)V -/
def sh_146 (o0 : Nat) (o1 : Nat) (p2 : Int32) (w : Wd) : Option (Unit × Wd) := if 0 ≤ p2 then (if 144 ≤ p2 then (some ((), w)) else (gd (ib p2 144) (if wI w (o0 + 2) (ix p2) = 0 then (cl (sh_145 o0 ((2 * p2) + 1) (2 * p2) w) (fun _ w4 => some ((), w4))) else (itM (fun (v3_6 : Int32) (w8 : Wd) => if v3_6 < 4 then (cl (sh_55 o1 p2 v3_6 w8) (fun r11 w10 => if 0 ≤ r11 then (if r11 < 144 then (gd (ib ((r11 * 4) + (zrem (v3_6 + 2) 4)) 576) (if wI w10 (o0 + 3) (ix ((r11 * 4) + (zrem (v3_6 + 2) 4))) = 0 then (lt (v3_6 + 1 : Int32) (fun v3_15 => some (.inl v3_15, w10))) else (cl (sh_145 o0 ((2 * r11) + 1) (2 * p2) w10) (fun _ w16 => lt (v3_6 + 1 : Int32) (fun v3_18 => some (.inl v3_18, w16)))))) else (lt (v3_6 + 1 : Int32) (fun v3_19 => some (.inl v3_19, w10)))) else (lt (v3_6 + 1 : Int32) (fun v3_20 => some (.inl v3_20, w10))))) else (some (.inr (()), w8))) FU 0 w)))) else (some ((), w))
set_option maxRecDepth 20000 in
set_option maxHeartbeats 4000000 in
theorem ev_146 {d : Nat} (hd : 3 ≤ d) {o0 : Nat} {o1 : Nat} {p2 : Int32} {w : Wd} (hT : TY w) (ho0 : ist o0 3) (ho1 : ist o1 1) : sp (sh_146 o0 o1 p2 w) (fun r w' => TY w' ∧ Ev d 146 [.ref o0, .ref o1, .int p2] w (cvV r) w') := by
  obtain ⟨d, rfl⟩ : ∃ d', d = d' + 1 := ⟨d - 1, by omega⟩
  refine ev_of (M := M146) zin_146 rfl (by decide) rfl (Nat.le_of_ble_eq_true rfl) (Or.inr ⟨o0, _, rfl, ho0⟩) hT ?_
  show sp _ (PP (Ev d) M146 (KR cvV) (0, [(0, .ref o0), (1, .ref o1), (2, .int p2)], [], w))
  unfold sh_146
  refine s_iload rfl rfl ?_
  refine sp_ite (fun h1 => ?_) (fun h1 => ?_)
  · refine s_if0 rfl (zc_lt0 h1) ?_
    refine s_iload rfl rfl ?_
    refine s_const rfl ?_
    refine sp_ite (fun h2 => ?_) (fun h2 => ?_)
    · refine s_ic0 rfl (zc_lt0 h2) ?_
      exact s_retV rfl rfl hT (fun _ _ h => h)
    · refine s_ic1 rfl (zc_lt1 h2) ?_
      refine s_aload rfl rfl ?_
      refine s_getF rfl hT ho0 rfl ?_
      refine s_iload rfl rfl ?_
      refine s_bald rfl hT (of_3_3 ho0) (Or.inr rfl) ?_
      refine sp_ite (fun h3 => ?_) (fun h3 => ?_)
      · refine s_if0 rfl (zc_ne0 h3) ?_
        refine s_aload rfl rfl ?_
        refine s_const rfl ?_
        refine s_iload rfl rfl ?_
        refine s_bin rfl rfl ?_
        refine s_const rfl ?_
        refine s_bin rfl rfl ?_
        refine s_const rfl ?_
        refine s_iload rfl rfl ?_
        refine s_bin rfl rfl ?_
        refine s_callV [.ref o0, .int ((2 * p2) + 1), .int (2 * p2)] [] rfl rfl (Nat.le_of_ble_eq_true rfl) (ev_145 (d := d) (by omega) hT ho0) (fun _ w4 hT4 => ?_)
        exact s_retV rfl rfl hT4 (fun _ _ h => h)
      · refine s_if1 rfl (zc_ne1 h3) ?_
        refine s_const rfl ?_
        refine s_istoreF [(0, .ref o0), (1, .ref o1), (2, .int p2), (3, .int 0)] rfl (subl_c rfl (subl_c rfl (subl_c rfl (subl_c rfl (subl_n))))) ?_
        let lvL7 : Int32 → List (Nat × Value) := fun s21 => [(0, .ref o0), (1, .ref o1), (2, .int p2), (3, .int s21)]
        refine s_loop lvL7 (subl_c rfl (subl_c rfl (subl_c rfl (subl_c rfl (subl_n))))) hT (fun v3_6 w8 hT8 => ?_)
        show sp _ (PP _ _ _ (36, [(0, .ref o0), (1, .ref o1), (2, .int p2), (3, .int v3_6)], [], w8))
        refine s_iload rfl rfl ?_
        refine s_const rfl ?_
        refine sp_ite (fun h9 => ?_) (fun h9 => ?_)
        · refine s_ic0 rfl (zc_ge0 h9) ?_
          refine s_aload rfl rfl ?_
          refine s_iload rfl rfl ?_
          refine s_iload rfl rfl ?_
          refine s_callI [.ref o1, .int p2, .int v3_6] [] rfl rfl (Nat.le_of_ble_eq_true rfl) (ev_55 (d := d) (by omega) hT8 ho1) (fun r11 w10 hT10 => ?_)
          refine s_istoreF [(0, .ref o0), (1, .ref o1), (2, .int p2), (3, .int v3_6), (4, .int r11)] rfl (subl_c rfl (subl_c rfl (subl_c rfl (subl_c rfl (subl_c rfl (subl_n)))))) ?_
          refine s_iload rfl rfl ?_
          refine sp_ite (fun h12 => ?_) (fun h12 => ?_)
          · refine s_if0 rfl (zc_lt0 h12) ?_
            refine s_iload rfl rfl ?_
            refine s_const rfl ?_
            refine sp_ite (fun h13 => ?_) (fun h13 => ?_)
            · refine s_ic0 rfl (zc_ge0 h13) ?_
              refine s_aload rfl rfl ?_
              refine s_getF rfl hT10 ho0 rfl ?_
              refine s_iload rfl rfl ?_
              refine s_const rfl ?_
              refine s_bin rfl rfl ?_
              refine s_iload rfl rfl ?_
              refine s_const rfl ?_
              refine s_bin rfl rfl ?_
              refine s_const rfl ?_
              refine s_rem rfl (by decide) ?_
              refine s_bin rfl rfl ?_
              refine s_bald rfl hT10 (of_3_4 ho0) (Or.inr rfl) ?_
              refine sp_ite (fun h14 => ?_) (fun h14 => ?_)
              · refine s_if1 rfl (zc_eq1 h14) ?_
                refine s_iincF (fun v3_15 => [(0, .ref o0), (1, .ref o1), (2, .int p2), (3, .int v3_15)]) rfl rfl (fun _ => subl_c rfl (subl_c rfl (subl_c rfl (subl_c rfl (subl_n))))) (fun v3_15 => ?_)
                refine s_goto rfl ?_
                exact s_back (lvL := lvL7) (s' := v3_15) (subl_c rfl (subl_c rfl (subl_c rfl (subl_c rfl (subl_n))))) hT10 (fun _ _ h => h)
              · refine s_if0 rfl (zc_eq0 h14) ?_
                refine s_aload rfl rfl ?_
                refine s_const rfl ?_
                refine s_iload rfl rfl ?_
                refine s_bin rfl rfl ?_
                refine s_const rfl ?_
                refine s_bin rfl rfl ?_
                refine s_const rfl ?_
                refine s_iload rfl rfl ?_
                refine s_bin rfl rfl ?_
                refine s_callV [.ref o0, .int ((2 * r11) + 1), .int (2 * p2)] [] rfl rfl (Nat.le_of_ble_eq_true rfl) (ev_145 (d := d) (by omega) hT10 ho0) (fun _ w16 hT16 => ?_)
                refine s_iincF (fun v3_18 => [(0, .ref o0), (1, .ref o1), (2, .int p2), (3, .int v3_18)]) rfl rfl (fun _ => subl_c rfl (subl_c rfl (subl_c rfl (subl_c rfl (subl_n))))) (fun v3_18 => ?_)
                refine s_goto rfl ?_
                exact s_back (lvL := lvL7) (s' := v3_18) (subl_c rfl (subl_c rfl (subl_c rfl (subl_c rfl (subl_n))))) hT16 (fun _ _ h => h)
            · refine s_ic1 rfl (zc_ge1 h13) ?_
              refine s_iincF (fun v3_19 => [(0, .ref o0), (1, .ref o1), (2, .int p2), (3, .int v3_19)]) rfl rfl (fun _ => subl_c rfl (subl_c rfl (subl_c rfl (subl_c rfl (subl_n))))) (fun v3_19 => ?_)
              refine s_goto rfl ?_
              exact s_back (lvL := lvL7) (s' := v3_19) (subl_c rfl (subl_c rfl (subl_c rfl (subl_c rfl (subl_n))))) hT10 (fun _ _ h => h)
          · refine s_if1 rfl (zc_lt1 h12) ?_
            refine s_iincF (fun v3_20 => [(0, .ref o0), (1, .ref o1), (2, .int p2), (3, .int v3_20)]) rfl rfl (fun _ => subl_c rfl (subl_c rfl (subl_c rfl (subl_c rfl (subl_n))))) (fun v3_20 => ?_)
            refine s_goto rfl ?_
            exact s_back (lvL := lvL7) (s' := v3_20) (subl_c rfl (subl_c rfl (subl_c rfl (subl_c rfl (subl_n))))) hT10 (fun _ _ h => h)
        · refine s_ic1 rfl (zc_ge1 h9) ?_
          exact s_retV rfl rfl hT8 (fun _ _ h => h)
  · refine s_if1 rfl (zc_lt1 h1) ?_
    exact s_retV rfl rfl hT (fun _ _ h => h)
/-- RugReader$Lookout.goOnFromOut(LRugReader$House;I)V -/
def sh_147 (o0 : Nat) (o1 : Nat) (p2 : Int32) (w : Wd) : Option (Unit × Wd) := if 0 ≤ p2 then (if 144 ≤ p2 then (some ((), w)) else (gd (ib p2 144) (jn (fun (s28 : Unit) (w4 : Wd) => itM (fun (v3_5 : Int32) (w7 : Wd) => if v3_5 < 4 then (cl (sh_55 o1 p2 v3_5 w7) (fun r10 w9 => if 0 ≤ r10 then (if r10 < 144 then (gd (ib r10 144) (if wI w9 (o0 + 1) (ix r10) = 0 then (if r10 = wI w9 o0 0 then (lt (v3_5 + 1 : Int32) (fun v3_15 => some (.inl v3_15, w9))) else (gd (ib ((p2 * 4) + v3_5) 576) (if wI w9 (o0 + 3) (ix ((p2 * 4) + v3_5)) = 0 then (cl (sh_145 o0 (2 * r10) ((2 * p2) + 1) w9) (fun _ w17 => lt (v3_5 + 1 : Int32) (fun v3_19 => some (.inl v3_19, w17)))) else (lt (v3_5 + 1 : Int32) (fun v3_20 => some (.inl v3_20, w9)))))) else (lt (v3_5 + 1 : Int32) (fun v3_21 => some (.inl v3_21, w9))))) else (lt (v3_5 + 1 : Int32) (fun v3_22 => some (.inl v3_22, w9)))) else (lt (v3_5 + 1 : Int32) (fun v3_23 => some (.inl v3_23, w9))))) else (some (.inr (()), w7))) FU 0 w4) (fun j3 => if wI w (o0 + 2) (ix p2) = 0 then (j3 () w) else (cl (sh_145 o0 (2 * p2) ((2 * p2) + 1) w) (fun _ w26 => j3 () w26)))))) else (some ((), w))
set_option maxRecDepth 20000 in
set_option maxHeartbeats 4000000 in
theorem ev_147 {d : Nat} (hd : 3 ≤ d) {o0 : Nat} {o1 : Nat} {p2 : Int32} {w : Wd} (hT : TY w) (ho0 : ist o0 3) (ho1 : ist o1 1) : sp (sh_147 o0 o1 p2 w) (fun r w' => TY w' ∧ Ev d 147 [.ref o0, .ref o1, .int p2] w (cvV r) w') := by
  obtain ⟨d, rfl⟩ : ∃ d', d = d' + 1 := ⟨d - 1, by omega⟩
  refine ev_of (M := M147) zin_147 rfl (by decide) rfl (Nat.le_of_ble_eq_true rfl) (Or.inr ⟨o0, _, rfl, ho0⟩) hT ?_
  show sp _ (PP (Ev d) M147 (KR cvV) (0, [(0, .ref o0), (1, .ref o1), (2, .int p2)], [], w))
  unfold sh_147
  refine s_iload rfl rfl ?_
  refine sp_ite (fun h1 => ?_) (fun h1 => ?_)
  · refine s_if0 rfl (zc_lt0 h1) ?_
    refine s_iload rfl rfl ?_
    refine s_const rfl ?_
    refine sp_ite (fun h2 => ?_) (fun h2 => ?_)
    · refine s_ic0 rfl (zc_lt0 h2) ?_
      exact s_retV rfl rfl hT (fun _ _ h => h)
    · refine s_ic1 rfl (zc_lt1 h2) ?_
      refine s_aload rfl rfl ?_
      refine s_getF rfl hT ho0 rfl ?_
      refine s_iload rfl rfl ?_
      refine s_bald rfl hT (of_3_3 ho0) (Or.inr rfl) ?_
      refine s_jnP (fun (s28 : Unit) w => (33, [(0, .ref o0), (1, .ref o1), (2, .int p2)], [], w)) (fun s28 w4 hT4 => ?_) (fun j3 hj3 => ?_)
      · show sp _ (PP _ _ _ (33, [(0, .ref o0), (1, .ref o1), (2, .int p2)], [], w4))
        refine s_const rfl ?_
        refine s_istoreF [(0, .ref o0), (1, .ref o1), (2, .int p2), (3, .int 0)] rfl (subl_c rfl (subl_c rfl (subl_c rfl (subl_c rfl (subl_n))))) ?_
        let lvL6 : Int32 → List (Nat × Value) := fun s24 => [(0, .ref o0), (1, .ref o1), (2, .int p2), (3, .int s24)]
        refine s_loop lvL6 (subl_c rfl (subl_c rfl (subl_c rfl (subl_c rfl (subl_n))))) hT4 (fun v3_5 w7 hT7 => ?_)
        show sp _ (PP _ _ _ (35, [(0, .ref o0), (1, .ref o1), (2, .int p2), (3, .int v3_5)], [], w7))
        refine s_iload rfl rfl ?_
        refine s_const rfl ?_
        refine sp_ite (fun h8 => ?_) (fun h8 => ?_)
        · refine s_ic0 rfl (zc_ge0 h8) ?_
          refine s_aload rfl rfl ?_
          refine s_iload rfl rfl ?_
          refine s_iload rfl rfl ?_
          refine s_callI [.ref o1, .int p2, .int v3_5] [] rfl rfl (Nat.le_of_ble_eq_true rfl) (ev_55 (d := d) (by omega) hT7 ho1) (fun r10 w9 hT9 => ?_)
          refine s_istoreF [(0, .ref o0), (1, .ref o1), (2, .int p2), (3, .int v3_5), (4, .int r10)] rfl (subl_c rfl (subl_c rfl (subl_c rfl (subl_c rfl (subl_c rfl (subl_n)))))) ?_
          refine s_iload rfl rfl ?_
          refine sp_ite (fun h11 => ?_) (fun h11 => ?_)
          · refine s_if0 rfl (zc_lt0 h11) ?_
            refine s_iload rfl rfl ?_
            refine s_const rfl ?_
            refine sp_ite (fun h12 => ?_) (fun h12 => ?_)
            · refine s_ic0 rfl (zc_ge0 h12) ?_
              refine s_aload rfl rfl ?_
              refine s_getF rfl hT9 ho0 rfl ?_
              refine s_iload rfl rfl ?_
              refine s_bald rfl hT9 (of_3_2 ho0) (Or.inr rfl) ?_
              refine sp_ite (fun h13 => ?_) (fun h13 => ?_)
              · refine s_if0 rfl (zc_ne0 h13) ?_
                refine s_iload rfl rfl ?_
                refine s_aload rfl rfl ?_
                refine s_getI rfl hT9 ho0 ?_
                refine sp_ite (fun h14 => ?_) (fun h14 => ?_)
                · refine s_ic1 rfl (zc_eq1 h14) ?_
                  refine s_iincF (fun v3_15 => [(0, .ref o0), (1, .ref o1), (2, .int p2), (3, .int v3_15)]) rfl rfl (fun _ => subl_c rfl (subl_c rfl (subl_c rfl (subl_c rfl (subl_n))))) (fun v3_15 => ?_)
                  refine s_goto rfl ?_
                  exact s_back (lvL := lvL6) (s' := v3_15) (subl_c rfl (subl_c rfl (subl_c rfl (subl_c rfl (subl_n))))) hT9 (fun _ _ h => h)
                · refine s_ic0 rfl (zc_eq0 h14) ?_
                  refine s_aload rfl rfl ?_
                  refine s_getF rfl hT9 ho0 rfl ?_
                  refine s_iload rfl rfl ?_
                  refine s_const rfl ?_
                  refine s_bin rfl rfl ?_
                  refine s_iload rfl rfl ?_
                  refine s_bin rfl rfl ?_
                  refine s_bald rfl hT9 (of_3_4 ho0) (Or.inr rfl) ?_
                  refine sp_ite (fun h16 => ?_) (fun h16 => ?_)
                  · refine s_if0 rfl (zc_ne0 h16) ?_
                    refine s_aload rfl rfl ?_
                    refine s_const rfl ?_
                    refine s_iload rfl rfl ?_
                    refine s_bin rfl rfl ?_
                    refine s_const rfl ?_
                    refine s_iload rfl rfl ?_
                    refine s_bin rfl rfl ?_
                    refine s_const rfl ?_
                    refine s_bin rfl rfl ?_
                    refine s_callV [.ref o0, .int (2 * r10), .int ((2 * p2) + 1)] [] rfl rfl (Nat.le_of_ble_eq_true rfl) (ev_145 (d := d) (by omega) hT9 ho0) (fun _ w17 hT17 => ?_)
                    refine s_iincF (fun v3_19 => [(0, .ref o0), (1, .ref o1), (2, .int p2), (3, .int v3_19)]) rfl rfl (fun _ => subl_c rfl (subl_c rfl (subl_c rfl (subl_c rfl (subl_n))))) (fun v3_19 => ?_)
                    refine s_goto rfl ?_
                    exact s_back (lvL := lvL6) (s' := v3_19) (subl_c rfl (subl_c rfl (subl_c rfl (subl_c rfl (subl_n))))) hT17 (fun _ _ h => h)
                  · refine s_if1 rfl (zc_ne1 h16) ?_
                    refine s_iincF (fun v3_20 => [(0, .ref o0), (1, .ref o1), (2, .int p2), (3, .int v3_20)]) rfl rfl (fun _ => subl_c rfl (subl_c rfl (subl_c rfl (subl_c rfl (subl_n))))) (fun v3_20 => ?_)
                    refine s_goto rfl ?_
                    exact s_back (lvL := lvL6) (s' := v3_20) (subl_c rfl (subl_c rfl (subl_c rfl (subl_c rfl (subl_n))))) hT9 (fun _ _ h => h)
              · refine s_if1 rfl (zc_ne1 h13) ?_
                refine s_iincF (fun v3_21 => [(0, .ref o0), (1, .ref o1), (2, .int p2), (3, .int v3_21)]) rfl rfl (fun _ => subl_c rfl (subl_c rfl (subl_c rfl (subl_c rfl (subl_n))))) (fun v3_21 => ?_)
                refine s_goto rfl ?_
                exact s_back (lvL := lvL6) (s' := v3_21) (subl_c rfl (subl_c rfl (subl_c rfl (subl_c rfl (subl_n))))) hT9 (fun _ _ h => h)
            · refine s_ic1 rfl (zc_ge1 h12) ?_
              refine s_iincF (fun v3_22 => [(0, .ref o0), (1, .ref o1), (2, .int p2), (3, .int v3_22)]) rfl rfl (fun _ => subl_c rfl (subl_c rfl (subl_c rfl (subl_c rfl (subl_n))))) (fun v3_22 => ?_)
              refine s_goto rfl ?_
              exact s_back (lvL := lvL6) (s' := v3_22) (subl_c rfl (subl_c rfl (subl_c rfl (subl_c rfl (subl_n))))) hT9 (fun _ _ h => h)
          · refine s_if1 rfl (zc_lt1 h11) ?_
            refine s_iincF (fun v3_23 => [(0, .ref o0), (1, .ref o1), (2, .int p2), (3, .int v3_23)]) rfl rfl (fun _ => subl_c rfl (subl_c rfl (subl_c rfl (subl_c rfl (subl_n))))) (fun v3_23 => ?_)
            refine s_goto rfl ?_
            exact s_back (lvL := lvL6) (s' := v3_23) (subl_c rfl (subl_c rfl (subl_c rfl (subl_c rfl (subl_n))))) hT9 (fun _ _ h => h)
        · refine s_ic1 rfl (zc_ge1 h8) ?_
          exact s_retV rfl rfl hT7 (fun _ _ h => h)
      · refine sp_ite (fun h25 => ?_) (fun h25 => ?_)
        · refine s_if1 rfl (zc_eq1 h25) ?_
          exact s_fgt _ (subl_c rfl (subl_c rfl (subl_c rfl (subl_n)))) (hj3 () w hT)
        · refine s_if0 rfl (zc_eq0 h25) ?_
          refine s_aload rfl rfl ?_
          refine s_const rfl ?_
          refine s_iload rfl rfl ?_
          refine s_bin rfl rfl ?_
          refine s_const rfl ?_
          refine s_iload rfl rfl ?_
          refine s_bin rfl rfl ?_
          refine s_const rfl ?_
          refine s_bin rfl rfl ?_
          refine s_callV [.ref o0, .int (2 * p2), .int ((2 * p2) + 1)] [] rfl rfl (Nat.le_of_ble_eq_true rfl) (ev_145 (d := d) (by omega) hT ho0) (fun _ w26 hT26 => ?_)
          exact s_fgt _ (subl_c rfl (subl_c rfl (subl_c rfl (subl_n)))) (hj3 () w26 hT26)
  · refine s_if1 rfl (zc_lt1 h1) ?_
    exact s_retV rfl rfl hT (fun _ _ h => h)
/-- RugReader$Lookout.canGo(LRugReader$House;II)Z -/
def sh_144 (o0 : Nat) (o1 : Nat) (p2 : Int32) (p3 : Int32) (w : Wd) : Option (Bool × Wd) := itM (fun (v4_1 : Int32) (w3 : Wd) => if v4_1 < 288 then (gd (ib v4_1 288) (stI w3 (o0 + 4) (ix v4_1) (-1) (fun w5 => lt (v4_1 + 1 : Int32) (fun v4_6 => some (.inl v4_6, w5))))) else (stI w3 o0 7 0 (fun w7 => cl (sh_145 o0 p2 p2 w7) (fun _ w8 => itM (fun (v4_10 : Int32) (w12 : Wd) => if v4_10 < wI w12 o0 7 then (if v4_10 < 288 then (gd (ib v4_10 288) (if wI w12 (o0 + 5) (ix v4_10) = p3 then (some (.inr (.inr (true)), w12)) else (gd (ib v4_10 288) (if zrem (wI w12 (o0 + 5) (ix v4_10)) 2 = 0 then (gd (ib v4_10 288) (cl (sh_146 o0 o1 ((wI w12 (o0 + 5) (ix v4_10)) / 2) w12) (fun _ w17 => lt (v4_10 + 1 : Int32) (fun v4_19 => some (.inl v4_19, w17))))) else (gd (ib v4_10 288) (cl (sh_147 o0 o1 ((wI w12 (o0 + 5) (ix v4_10)) / 2) w12) (fun _ w20 => lt (v4_10 + 1 : Int32) (fun v4_22 => some (.inl v4_22, w20))))))))) else (some (.inr (.inr (false)), w12))) else (some (.inr (.inr (false)), w12))) FU 0 w8)))) FU 0 w
set_option maxRecDepth 20000 in
set_option maxHeartbeats 4000000 in
theorem ev_144 {d : Nat} (hd : 4 ≤ d) {o0 : Nat} {o1 : Nat} {p2 : Int32} {p3 : Int32} {w : Wd} (hT : TY w) (ho0 : ist o0 3) (ho1 : ist o1 1) : sp (sh_144 o0 o1 p2 p3 w) (fun r w' => TY w' ∧ Ev d 144 [.ref o0, .ref o1, .int p2, .int p3] w (cvZ r) w') := by
  obtain ⟨d, rfl⟩ : ∃ d', d = d' + 1 := ⟨d - 1, by omega⟩
  refine ev_of (M := M144) zin_144 rfl (by decide) rfl (Nat.le_of_ble_eq_true rfl) (Or.inr ⟨o0, _, rfl, ho0⟩) hT ?_
  show sp _ (PP (Ev d) M144 (KR cvZ) (0, [(0, .ref o0), (1, .ref o1), (2, .int p2), (3, .int p3)], [], w))
  unfold sh_144
  refine s_const rfl ?_
  refine s_istoreF [(0, .ref o0), (1, .ref o1), (2, .int p2), (3, .int p3), (4, .int 0)] rfl (subl_c rfl (subl_c rfl (subl_c rfl (subl_c rfl (subl_c rfl (subl_n)))))) ?_
  let lvL2 : Int32 → List (Nat × Value) := fun s24 => [(0, .ref o0), (1, .ref o1), (2, .int p2), (3, .int p3), (4, .int s24)]
  refine s_loop lvL2 (subl_c rfl (subl_c rfl (subl_c rfl (subl_c rfl (subl_c rfl (subl_n)))))) hT (fun v4_1 w3 hT3 => ?_)
  show sp _ (PP _ _ _ (3, [(0, .ref o0), (1, .ref o1), (2, .int p2), (3, .int p3), (4, .int v4_1)], [], w3))
  refine s_iload rfl rfl ?_
  refine s_const rfl ?_
  refine sp_ite (fun h4 => ?_) (fun h4 => ?_)
  · refine s_ic0 rfl (zc_ge0 h4) ?_
    refine s_aload rfl rfl ?_
    refine s_getF rfl hT3 ho0 rfl ?_
    refine s_iload rfl rfl ?_
    refine s_const rfl ?_
    refine s_iast rfl hT3 (of_3_5 ho0) (fun w5 hT5 => ?_)
    refine s_iincF (fun v4_6 => [(0, .ref o0), (1, .ref o1), (2, .int p2), (3, .int p3), (4, .int v4_6)]) rfl rfl (fun _ => subl_c rfl (subl_c rfl (subl_c rfl (subl_c rfl (subl_c rfl (subl_n)))))) (fun v4_6 => ?_)
    refine s_goto rfl ?_
    exact s_back (lvL := lvL2) (s' := v4_6) (subl_c rfl (subl_c rfl (subl_c rfl (subl_c rfl (subl_c rfl (subl_n)))))) hT5 (fun _ _ h => h)
  · refine s_ic1 rfl (zc_ge1 h4) ?_
    refine s_aload rfl rfl ?_
    refine s_const rfl ?_
    refine s_putI rfl hT3 ho0 rfl (fun w7 hT7 => ?_)
    refine s_aload rfl rfl ?_
    refine s_iload rfl rfl ?_
    refine s_iload rfl rfl ?_
    refine s_callV [.ref o0, .int p2, .int p2] [] rfl rfl (Nat.le_of_ble_eq_true rfl) (ev_145 (d := d) (by omega) hT7 ho0) (fun _ w8 hT8 => ?_)
    refine s_const rfl ?_
    refine s_istoreF [(0, .ref o0), (1, .ref o1), (3, .int p3), (4, .int 0)] rfl (subl_c rfl (subl_c rfl (subl_c rfl (subl_c rfl (subl_n))))) ?_
    let lvL11 : Int32 → List (Nat × Value) := fun s23 => [(0, .ref o0), (1, .ref o1), (3, .int p3), (4, .int s23)]
    refine s_loop lvL11 (subl_c rfl (subl_c rfl (subl_c rfl (subl_c rfl (subl_n))))) hT8 (fun v4_10 w12 hT12 => ?_)
    show sp _ (PP _ _ _ (39, [(0, .ref o0), (1, .ref o1), (3, .int p3), (4, .int v4_10)], [], w12))
    refine s_iload rfl rfl ?_
    refine s_aload rfl rfl ?_
    refine s_getI rfl hT12 ho0 ?_
    refine sp_ite (fun h13 => ?_) (fun h13 => ?_)
    · refine s_ic0 rfl (zc_ge0 h13) ?_
      refine s_iload rfl rfl ?_
      refine s_const rfl ?_
      refine sp_ite (fun h14 => ?_) (fun h14 => ?_)
      · refine s_ic0 rfl (zc_ge0 h14) ?_
        refine s_aload rfl rfl ?_
        refine s_getF rfl hT12 ho0 rfl ?_
        refine s_iload rfl rfl ?_
        refine s_iald rfl hT12 (of_3_6 ho0) ?_
        refine s_iload rfl rfl ?_
        refine sp_ite (fun h15 => ?_) (fun h15 => ?_)
        · refine s_ic0 rfl (zc_ne0 h15) ?_
          refine s_const rfl ?_
          exact s_retZ (z := true) rfl rfl hT12 (fun _ _ h => h)
        · refine s_ic1 rfl (zc_ne1 h15) ?_
          refine s_aload rfl rfl ?_
          refine s_getF rfl hT12 ho0 rfl ?_
          refine s_iload rfl rfl ?_
          refine s_iald rfl hT12 (of_3_6 ho0) ?_
          refine s_const rfl ?_
          refine s_rem rfl (by decide) ?_
          refine sp_ite (fun h16 => ?_) (fun h16 => ?_)
          · refine s_if0 rfl (zc_ne0 h16) ?_
            refine s_aload rfl rfl ?_
            refine s_aload rfl rfl ?_
            refine s_aload rfl rfl ?_
            refine s_getF rfl hT12 ho0 rfl ?_
            refine s_iload rfl rfl ?_
            refine s_iald rfl hT12 (of_3_6 ho0) ?_
            refine s_const rfl ?_
            refine s_div rfl (by decide) ?_
            refine s_callV [.ref o0, .ref o1, .int ((wI w12 (o0 + 5) (ix v4_10)) / 2)] [] rfl rfl (Nat.le_of_ble_eq_true rfl) (ev_146 (d := d) (by omega) hT12 ho0 ho1) (fun _ w17 hT17 => ?_)
            refine s_goto rfl ?_
            refine s_iincF (fun v4_19 => [(0, .ref o0), (1, .ref o1), (3, .int p3), (4, .int v4_19)]) rfl rfl (fun _ => subl_c rfl (subl_c rfl (subl_c rfl (subl_c rfl (subl_n))))) (fun v4_19 => ?_)
            refine s_goto rfl ?_
            exact s_back (lvL := lvL11) (s' := v4_19) (subl_c rfl (subl_c rfl (subl_c rfl (subl_c rfl (subl_n))))) hT17 (fun _ _ h => h)
          · refine s_if1 rfl (zc_ne1 h16) ?_
            refine s_aload rfl rfl ?_
            refine s_aload rfl rfl ?_
            refine s_aload rfl rfl ?_
            refine s_getF rfl hT12 ho0 rfl ?_
            refine s_iload rfl rfl ?_
            refine s_iald rfl hT12 (of_3_6 ho0) ?_
            refine s_const rfl ?_
            refine s_div rfl (by decide) ?_
            refine s_callV [.ref o0, .ref o1, .int ((wI w12 (o0 + 5) (ix v4_10)) / 2)] [] rfl rfl (Nat.le_of_ble_eq_true rfl) (ev_147 (d := d) (by omega) hT12 ho0 ho1) (fun _ w20 hT20 => ?_)
            refine s_iincF (fun v4_22 => [(0, .ref o0), (1, .ref o1), (3, .int p3), (4, .int v4_22)]) rfl rfl (fun _ => subl_c rfl (subl_c rfl (subl_c rfl (subl_c rfl (subl_n))))) (fun v4_22 => ?_)
            refine s_goto rfl ?_
            exact s_back (lvL := lvL11) (s' := v4_22) (subl_c rfl (subl_c rfl (subl_c rfl (subl_c rfl (subl_n))))) hT20 (fun _ _ h => h)
      · refine s_ic1 rfl (zc_ge1 h14) ?_
        refine s_const rfl ?_
        exact s_retZ (z := false) rfl rfl hT12 (fun _ _ h => h)
    · refine s_ic1 rfl (zc_ge1 h13) ?_
      refine s_const rfl ?_
      exact s_retZ (z := false) rfl rfl hT12 (fun _ _ h => h)
/-- RugReader$Lookout.setFlow(LRugReader$House;IIZ)V -/
def sh_149 (o0 : Nat) (o1 : Nat) (p2 : Int32) (p3 : Int32) (p4 : Bool) (w : Wd) : Option (Unit × Wd) := itM (fun (v5_1 : Int32) (w3 : Wd) => if v5_1 < 4 then (if 0 ≤ p2 then (if p2 < 144 then (cl (sh_55 o1 p2 v5_1 w3) (fun r8 w7 => if r8 = p3 then (gd (ib ((p2 * 4) + v5_1) 576) (stI w7 (o0 + 3) (ix ((p2 * 4) + v5_1)) (bi p4) (fun w10 => lt (v5_1 + 1 : Int32) (fun v5_11 => some (.inl v5_11, w10))))) else (lt (v5_1 + 1 : Int32) (fun v5_12 => some (.inl v5_12, w7))))) else (lt (v5_1 + 1 : Int32) (fun v5_13 => some (.inl v5_13, w3)))) else (lt (v5_1 + 1 : Int32) (fun v5_14 => some (.inl v5_14, w3)))) else (some (.inr (()), w3))) FU 0 w
set_option maxRecDepth 20000 in
set_option maxHeartbeats 4000000 in
theorem ev_149 {d : Nat} (hd : 3 ≤ d) {o0 : Nat} {o1 : Nat} {p2 : Int32} {p3 : Int32} {p4 : Bool} {w : Wd} (hT : TY w) (ho0 : ist o0 3) (ho1 : ist o1 1) : sp (sh_149 o0 o1 p2 p3 p4 w) (fun r w' => TY w' ∧ Ev d 149 [.ref o0, .ref o1, .int p2, .int p3, .int (bi p4)] w (cvV r) w') := by
  obtain ⟨d, rfl⟩ : ∃ d', d = d' + 1 := ⟨d - 1, by omega⟩
  refine ev_of (M := M149) zin_149 rfl (by decide) rfl (Nat.le_of_ble_eq_true rfl) (Or.inr ⟨o0, _, rfl, ho0⟩) hT ?_
  show sp _ (PP (Ev d) M149 (KR cvV) (0, [(0, .ref o0), (1, .ref o1), (2, .int p2), (3, .int p3), (4, .int (bi p4))], [], w))
  unfold sh_149
  refine s_const rfl ?_
  refine s_istoreF [(0, .ref o0), (1, .ref o1), (2, .int p2), (3, .int p3), (4, .int (bi p4)), (5, .int 0)] rfl (subl_c rfl (subl_c rfl (subl_c rfl (subl_c rfl (subl_c rfl (subl_c rfl (subl_n))))))) ?_
  let lvL2 : Int32 → List (Nat × Value) := fun s15 => [(0, .ref o0), (1, .ref o1), (2, .int p2), (3, .int p3), (4, .int (bi p4)), (5, .int s15)]
  refine s_loop lvL2 (subl_c rfl (subl_c rfl (subl_c rfl (subl_c rfl (subl_c rfl (subl_c rfl (subl_n))))))) hT (fun v5_1 w3 hT3 => ?_)
  show sp _ (PP _ _ _ (3, [(0, .ref o0), (1, .ref o1), (2, .int p2), (3, .int p3), (4, .int (bi p4)), (5, .int v5_1)], [], w3))
  refine s_iload rfl rfl ?_
  refine s_const rfl ?_
  refine sp_ite (fun h4 => ?_) (fun h4 => ?_)
  · refine s_ic0 rfl (zc_ge0 h4) ?_
    refine s_iload rfl rfl ?_
    refine sp_ite (fun h5 => ?_) (fun h5 => ?_)
    · refine s_if0 rfl (zc_lt0 h5) ?_
      refine s_iload rfl rfl ?_
      refine s_const rfl ?_
      refine sp_ite (fun h6 => ?_) (fun h6 => ?_)
      · refine s_ic0 rfl (zc_ge0 h6) ?_
        refine s_aload rfl rfl ?_
        refine s_iload rfl rfl ?_
        refine s_iload rfl rfl ?_
        refine s_callI [.ref o1, .int p2, .int v5_1] [] rfl rfl (Nat.le_of_ble_eq_true rfl) (ev_55 (d := d) (by omega) hT3 ho1) (fun r8 w7 hT7 => ?_)
        refine s_iload rfl rfl ?_
        refine sp_ite (fun h9 => ?_) (fun h9 => ?_)
        · refine s_ic0 rfl (zc_ne0 h9) ?_
          refine s_aload rfl rfl ?_
          refine s_getF rfl hT7 ho0 rfl ?_
          refine s_iload rfl rfl ?_
          refine s_const rfl ?_
          refine s_bin rfl rfl ?_
          refine s_iload rfl rfl ?_
          refine s_bin rfl rfl ?_
          refine s_iload rfl rfl ?_
          refine s_zast rfl hT7 (of_3_4 ho0) (nar_bi _) (fun w10 hT10 => ?_)
          refine s_iincF (fun v5_11 => [(0, .ref o0), (1, .ref o1), (2, .int p2), (3, .int p3), (4, .int (bi p4)), (5, .int v5_11)]) rfl rfl (fun _ => subl_c rfl (subl_c rfl (subl_c rfl (subl_c rfl (subl_c rfl (subl_c rfl (subl_n))))))) (fun v5_11 => ?_)
          refine s_goto rfl ?_
          exact s_back (lvL := lvL2) (s' := v5_11) (subl_c rfl (subl_c rfl (subl_c rfl (subl_c rfl (subl_c rfl (subl_c rfl (subl_n))))))) hT10 (fun _ _ h => h)
        · refine s_ic1 rfl (zc_ne1 h9) ?_
          refine s_iincF (fun v5_12 => [(0, .ref o0), (1, .ref o1), (2, .int p2), (3, .int p3), (4, .int (bi p4)), (5, .int v5_12)]) rfl rfl (fun _ => subl_c rfl (subl_c rfl (subl_c rfl (subl_c rfl (subl_c rfl (subl_c rfl (subl_n))))))) (fun v5_12 => ?_)
          refine s_goto rfl ?_
          exact s_back (lvL := lvL2) (s' := v5_12) (subl_c rfl (subl_c rfl (subl_c rfl (subl_c rfl (subl_c rfl (subl_c rfl (subl_n))))))) hT7 (fun _ _ h => h)
      · refine s_ic1 rfl (zc_ge1 h6) ?_
        refine s_iincF (fun v5_13 => [(0, .ref o0), (1, .ref o1), (2, .int p2), (3, .int p3), (4, .int (bi p4)), (5, .int v5_13)]) rfl rfl (fun _ => subl_c rfl (subl_c rfl (subl_c rfl (subl_c rfl (subl_c rfl (subl_c rfl (subl_n))))))) (fun v5_13 => ?_)
        refine s_goto rfl ?_
        exact s_back (lvL := lvL2) (s' := v5_13) (subl_c rfl (subl_c rfl (subl_c rfl (subl_c rfl (subl_c rfl (subl_c rfl (subl_n))))))) hT3 (fun _ _ h => h)
    · refine s_if1 rfl (zc_lt1 h5) ?_
      refine s_iincF (fun v5_14 => [(0, .ref o0), (1, .ref o1), (2, .int p2), (3, .int p3), (4, .int (bi p4)), (5, .int v5_14)]) rfl rfl (fun _ => subl_c rfl (subl_c rfl (subl_c rfl (subl_c rfl (subl_c rfl (subl_c rfl (subl_n))))))) (fun v5_14 => ?_)
      refine s_goto rfl ?_
      exact s_back (lvL := lvL2) (s' := v5_14) (subl_c rfl (subl_c rfl (subl_c rfl (subl_c rfl (subl_c rfl (subl_c rfl (subl_n))))))) hT3 (fun _ _ h => h)
  · refine s_ic1 rfl (zc_ge1 h4) ?_
    exact s_retV rfl rfl hT3 (fun _ _ h => h)
/-- RugReader$Lookout.turn(LRugReader$House;)V -/
def sh_148 (o0 : Nat) (o1 : Nat) (w : Wd) : Option (Unit × Wd) := lt (2 * (wI w o0 1) : Int32) (fun v2_1 => itM (fun (s34 : Int32 × Int32) (w5 : Wd) => match s34 with | (v2_2, v3_3) => if v3_3 < 288 then (if 0 ≤ v2_2 then (if v2_2 < 288 then (if v2_2 = (2 * (wI w5 o0 0)) + 1 then (some (.inr (()), w5)) else (gd (ib v2_2 288) (lt (wI w5 (o0 + 4) (ix v2_2) : Int32) (fun v4_10 => jn (fun (s33 : Unit) (w12 : Wd) => jn (fun (s25 : Unit) (w14 : Wd) => if 0 ≤ v4_10 then (cl (sh_149 o0 o1 (v2_2 / 2) (v4_10 / 2) false w14) (fun _ w16 => lt (v3_3 + 1 : Int32) (fun v3_18 => some (.inl (v4_10, v3_18), w16)))) else (lt (v3_3 + 1 : Int32) (fun v3_19 => some (.inl (v4_10, v3_19), w14)))) (fun j13 => if 0 ≤ v4_10 then (if zrem v2_2 2 = 0 then (cl (sh_149 o0 o1 (v4_10 / 2) (v2_2 / 2) true w12) (fun _ w22 => lt (v3_3 + 1 : Int32) (fun v3_24 => some (.inl (v4_10, v3_24), w22)))) else (j13 () w12)) else (j13 () w12))) (fun j11 => if 0 ≤ v4_10 then (if v2_2 / 2 = v4_10 / 2 then (lt (if zrem v2_2 2 = 1 then true else false : Bool) (fun z28 => gd (ib (v2_2 / 2) 144) (stI w5 (o0 + 2) (ix (v2_2 / 2)) (bi z28) (fun w29 => lt (v3_3 + 1 : Int32) (fun v3_30 => some (.inl (v4_10, v3_30), w29)))))) else (j11 () w5)) else (j11 () w5)))))) else (some (.inr (()), w5))) else (some (.inr (()), w5))) else (some (.inr (()), w5))) FU (v2_1, 0) w)
set_option maxRecDepth 20000 in
set_option maxHeartbeats 4000000 in
theorem ev_148 {d : Nat} (hd : 4 ≤ d) {o0 : Nat} {o1 : Nat} {w : Wd} (hT : TY w) (ho0 : ist o0 3) (ho1 : ist o1 1) : sp (sh_148 o0 o1 w) (fun r w' => TY w' ∧ Ev d 148 [.ref o0, .ref o1] w (cvV r) w') := by
  obtain ⟨d, rfl⟩ : ∃ d', d = d' + 1 := ⟨d - 1, by omega⟩
  refine ev_of (M := M148) zin_148 rfl (by decide) rfl (Nat.le_of_ble_eq_true rfl) (Or.inr ⟨o0, _, rfl, ho0⟩) hT ?_
  show sp _ (PP (Ev d) M148 (KR cvV) (0, [(0, .ref o0), (1, .ref o1)], [], w))
  unfold sh_148
  refine s_const rfl ?_
  refine s_aload rfl rfl ?_
  refine s_getI rfl hT ho0 ?_
  refine s_bin rfl rfl ?_
  refine s_nmI (fun v2_1 => ?_)
  refine s_istoreF [(0, .ref o0), (1, .ref o1), (2, .int v2_1)] rfl (subl_c rfl (subl_c rfl (subl_c rfl (subl_n)))) ?_
  refine s_const rfl ?_
  refine s_istoreF [(0, .ref o0), (1, .ref o1), (2, .int v2_1), (3, .int 0)] rfl (subl_c rfl (subl_c rfl (subl_c rfl (subl_c rfl (subl_n))))) ?_
  let lvL4 : Int32 × Int32 → List (Nat × Value) := fun s34 => [(0, .ref o0), (1, .ref o1), (2, .int (s34.1)), (3, .int (s34.2))]
  refine s_loop lvL4 (subl_c rfl (subl_c rfl (subl_c rfl (subl_c rfl (subl_n))))) hT (fun s34 w5 hT5 => ?_)
  obtain ⟨v2_2, v3_3⟩ := s34
  show sp _ (PP _ _ _ (9, [(0, .ref o0), (1, .ref o1), (2, .int v2_2), (3, .int v3_3)], [], w5))
  refine s_iload rfl rfl ?_
  refine s_const rfl ?_
  refine sp_ite (fun h6 => ?_) (fun h6 => ?_)
  · refine s_ic0 rfl (zc_ge0 h6) ?_
    refine s_iload rfl rfl ?_
    refine sp_ite (fun h7 => ?_) (fun h7 => ?_)
    · refine s_if0 rfl (zc_lt0 h7) ?_
      refine s_iload rfl rfl ?_
      refine s_const rfl ?_
      refine sp_ite (fun h8 => ?_) (fun h8 => ?_)
      · refine s_ic0 rfl (zc_ge0 h8) ?_
        refine s_iload rfl rfl ?_
        refine s_const rfl ?_
        refine s_aload rfl rfl ?_
        refine s_getI rfl hT5 ho0 ?_
        refine s_bin rfl rfl ?_
        refine s_const rfl ?_
        refine s_bin rfl rfl ?_
        refine sp_ite (fun h9 => ?_) (fun h9 => ?_)
        · refine s_ic1 rfl (zc_eq1 h9) ?_
          exact s_retV rfl rfl hT5 (fun _ _ h => h)
        · refine s_ic0 rfl (zc_eq0 h9) ?_
          refine s_aload rfl rfl ?_
          refine s_getF rfl hT5 ho0 rfl ?_
          refine s_iload rfl rfl ?_
          refine s_iald rfl hT5 (of_3_5 ho0) ?_
          refine s_nmI (fun v4_10 => ?_)
          refine s_istoreF [(0, .ref o0), (1, .ref o1), (2, .int v2_2), (3, .int v3_3), (4, .int v4_10)] rfl (subl_c rfl (subl_c rfl (subl_c rfl (subl_c rfl (subl_c rfl (subl_n)))))) ?_
          refine s_iload rfl rfl ?_
          refine s_jnP (fun (s33 : Unit) w => (85, [(0, .ref o0), (1, .ref o1), (2, .int v2_2), (3, .int v3_3), (4, .int v4_10)], [], w)) (fun s33 w12 hT12 => ?_) (fun j11 hj11 => ?_)
          · show sp _ (PP _ _ _ (85, [(0, .ref o0), (1, .ref o1), (2, .int v2_2), (3, .int v3_3), (4, .int v4_10)], [], w12))
            refine s_iload rfl rfl ?_
            refine s_jnP (fun (s25 : Unit) w => (112, [(0, .ref o0), (1, .ref o1), (2, .int v2_2), (3, .int v3_3), (4, .int v4_10)], [], w)) (fun s25 w14 hT14 => ?_) (fun j13 hj13 => ?_)
            · show sp _ (PP _ _ _ (112, [(0, .ref o0), (1, .ref o1), (2, .int v2_2), (3, .int v3_3), (4, .int v4_10)], [], w14))
              refine s_iload rfl rfl ?_
              refine sp_ite (fun h15 => ?_) (fun h15 => ?_)
              · refine s_if0 rfl (zc_lt0 h15) ?_
                refine s_aload rfl rfl ?_
                refine s_aload rfl rfl ?_
                refine s_iload rfl rfl ?_
                refine s_const rfl ?_
                refine s_div rfl (by decide) ?_
                refine s_iload rfl rfl ?_
                refine s_const rfl ?_
                refine s_div rfl (by decide) ?_
                refine s_const rfl ?_
                refine s_callV [.ref o0, .ref o1, .int (v2_2 / 2), .int (v4_10 / 2), .int 0] [] rfl rfl (Nat.le_of_ble_eq_true rfl) (ev_149 (d := d) (by omega) hT14 ho0 ho1) (fun _ w16 hT16 => ?_)
                refine s_iload rfl rfl ?_
                refine s_istoreF [(0, .ref o0), (1, .ref o1), (2, .int v4_10), (3, .int v3_3)] rfl (subl_c rfl (subl_c rfl (subl_c rfl (subl_c rfl (subl_n))))) ?_
                refine s_iincF (fun v3_18 => [(0, .ref o0), (1, .ref o1), (2, .int v4_10), (3, .int v3_18)]) rfl rfl (fun _ => subl_c rfl (subl_c rfl (subl_c rfl (subl_c rfl (subl_n))))) (fun v3_18 => ?_)
                refine s_goto rfl ?_
                exact s_back (lvL := lvL4) (s' := (v4_10, v3_18)) (subl_c rfl (subl_c rfl (subl_c rfl (subl_c rfl (subl_n))))) hT16 (fun _ _ h => h)
              · refine s_if1 rfl (zc_lt1 h15) ?_
                refine s_iload rfl rfl ?_
                refine s_istoreF [(0, .ref o0), (1, .ref o1), (2, .int v4_10), (3, .int v3_3)] rfl (subl_c rfl (subl_c rfl (subl_c rfl (subl_c rfl (subl_n))))) ?_
                refine s_iincF (fun v3_19 => [(0, .ref o0), (1, .ref o1), (2, .int v4_10), (3, .int v3_19)]) rfl rfl (fun _ => subl_c rfl (subl_c rfl (subl_c rfl (subl_c rfl (subl_n))))) (fun v3_19 => ?_)
                refine s_goto rfl ?_
                exact s_back (lvL := lvL4) (s' := (v4_10, v3_19)) (subl_c rfl (subl_c rfl (subl_c rfl (subl_c rfl (subl_n))))) hT14 (fun _ _ h => h)
            · refine sp_ite (fun h20 => ?_) (fun h20 => ?_)
              · refine s_if0 rfl (zc_lt0 h20) ?_
                refine s_iload rfl rfl ?_
                refine s_const rfl ?_
                refine s_rem rfl (by decide) ?_
                refine sp_ite (fun h21 => ?_) (fun h21 => ?_)
                · refine s_if0 rfl (zc_ne0 h21) ?_
                  refine s_aload rfl rfl ?_
                  refine s_aload rfl rfl ?_
                  refine s_iload rfl rfl ?_
                  refine s_const rfl ?_
                  refine s_div rfl (by decide) ?_
                  refine s_iload rfl rfl ?_
                  refine s_const rfl ?_
                  refine s_div rfl (by decide) ?_
                  refine s_const rfl ?_
                  refine s_callV [.ref o0, .ref o1, .int (v4_10 / 2), .int (v2_2 / 2), .int 1] [] rfl rfl (Nat.le_of_ble_eq_true rfl) (ev_149 (d := d) (by omega) hT12 ho0 ho1) (fun _ w22 hT22 => ?_)
                  refine s_goto rfl ?_
                  refine s_iload rfl rfl ?_
                  refine s_istoreF [(0, .ref o0), (1, .ref o1), (2, .int v4_10), (3, .int v3_3)] rfl (subl_c rfl (subl_c rfl (subl_c rfl (subl_c rfl (subl_n))))) ?_
                  refine s_iincF (fun v3_24 => [(0, .ref o0), (1, .ref o1), (2, .int v4_10), (3, .int v3_24)]) rfl rfl (fun _ => subl_c rfl (subl_c rfl (subl_c rfl (subl_c rfl (subl_n))))) (fun v3_24 => ?_)
                  refine s_goto rfl ?_
                  exact s_back (lvL := lvL4) (s' := (v4_10, v3_24)) (subl_c rfl (subl_c rfl (subl_c rfl (subl_c rfl (subl_n))))) hT22 (fun _ _ h => h)
                · refine s_if1 rfl (zc_ne1 h21) ?_
                  exact s_fgt _ (subl_c rfl (subl_c rfl (subl_c rfl (subl_c rfl (subl_c rfl (subl_n)))))) (hj13 () w12 hT12)
              · refine s_if1 rfl (zc_lt1 h20) ?_
                exact s_fgt _ (subl_c rfl (subl_c rfl (subl_c rfl (subl_c rfl (subl_c rfl (subl_n)))))) (hj13 () w12 hT12)
          · refine sp_ite (fun h26 => ?_) (fun h26 => ?_)
            · refine s_if0 rfl (zc_lt0 h26) ?_
              refine s_iload rfl rfl ?_
              refine s_const rfl ?_
              refine s_div rfl (by decide) ?_
              refine s_iload rfl rfl ?_
              refine s_const rfl ?_
              refine s_div rfl (by decide) ?_
              refine sp_ite (fun h27 => ?_) (fun h27 => ?_)
              · refine s_ic0 rfl (zc_ne0 h27) ?_
                refine s_aload rfl rfl ?_
                refine s_getF rfl hT5 ho0 rfl ?_
                refine s_iload rfl rfl ?_
                refine s_const rfl ?_
                refine s_div rfl (by decide) ?_
                refine s_iload rfl rfl ?_
                refine s_const rfl ?_
                refine s_rem rfl (by decide) ?_
                refine s_const rfl ?_
                refine sp_lt (fun z28 hz28 => ?_)
                refine s_dia (81, [(0, .ref o0), (1, .ref o1), (2, .int v2_2), (3, .int v3_3), (4, .int v4_10)], [.int (bi z28), .int (v2_2 / 2), .ref (o0 + 2)], w5) ?_ (fun hk31 => ?_)
                · refine s_zast rfl hT5 (of_3_3 ho0) (nar_bi _) (fun w29 hT29 => ?_)
                  refine s_goto rfl ?_
                  refine s_iload rfl rfl ?_
                  refine s_istoreF [(0, .ref o0), (1, .ref o1), (2, .int v4_10), (3, .int v3_3)] rfl (subl_c rfl (subl_c rfl (subl_c rfl (subl_c rfl (subl_n))))) ?_
                  refine s_iincF (fun v3_30 => [(0, .ref o0), (1, .ref o1), (2, .int v4_10), (3, .int v3_30)]) rfl rfl (fun _ => subl_c rfl (subl_c rfl (subl_c rfl (subl_c rfl (subl_n))))) (fun v3_30 => ?_)
                  refine s_goto rfl ?_
                  exact s_back (lvL := lvL4) (s' := (v4_10, v3_30)) (subl_c rfl (subl_c rfl (subl_c rfl (subl_c rfl (subl_n))))) hT29 (fun _ _ h => h)
                · by_cases h32 : zrem v2_2 2 = 1
                  · refine s_ic0 rfl (zc_ne0 h32) ?_
                    refine s_const rfl ?_
                    refine s_goto rfl ?_
                    refine s_cong ?_ hk31
                    (rw [hz28, if_pos h32]; rfl)
                  · refine s_ic1 rfl (zc_ne1 h32) ?_
                    refine s_const rfl ?_
                    refine s_cong ?_ hk31
                    (rw [hz28, if_neg h32]; rfl)
              · refine s_ic1 rfl (zc_ne1 h27) ?_
                exact s_fgt _ (subl_c rfl (subl_c rfl (subl_c rfl (subl_c rfl (subl_c rfl (subl_n)))))) (hj11 () w5 hT5)
            · refine s_if1 rfl (zc_lt1 h26) ?_
              exact s_fgt _ (subl_c rfl (subl_c rfl (subl_c rfl (subl_c rfl (subl_c rfl (subl_n)))))) (hj11 () w5 hT5)
      · refine s_ic1 rfl (zc_ge1 h8) ?_
        exact s_retV rfl rfl hT5 (fun _ _ h => h)
    · refine s_if1 rfl (zc_lt1 h7) ?_
      exact s_retV rfl rfl hT5 (fun _ _ h => h)
  · refine s_ic1 rfl (zc_ge1 h6) ?_
    exact s_retV rfl rfl hT5 (fun _ _ h => h)
/-- RugReader$Lookout.fill(LRugReader$House;)I -/
def sh_143 (o0 : Nat) (o1 : Nat) (w : Wd) : Option (Int32 × Wd) := itM (fun (v2_1 : Int32) (w3 : Wd) => if v2_1 < 144 then (lt (if v2_1 = wI w3 o0 0 then true else (if v2_1 = wI w3 o0 1 then true else false) : Bool) (fun z5 => gd (ib v2_1 144) (stI w3 (o0 + 2) (ix v2_1) (bi z5) (fun w6 => lt (v2_1 + 1 : Int32) (fun v2_7 => some (.inl v2_7, w6)))))) else (itM (fun (v2_11 : Int32) (w13 : Wd) => if v2_11 < 576 then (gd (ib v2_11 576) (stI w13 (o0 + 3) (ix v2_11) 0 (fun w15 => lt (v2_11 + 1 : Int32) (fun v2_16 => some (.inl v2_16, w15))))) else (itM (fun (s29 : Int32 × Int32) (w20 : Wd) => match s29 with | (v2_17, v3_18) => if v3_18 < 4 then (cl (sh_144 o0 o1 ((2 * (wI w20 o0 0)) + 1) (2 * (wI w20 o0 1)) w20) (fun r23 w22 => if r23 = true then (cl (sh_148 o0 o1 w22) (fun _ w25 => lt (v2_17 + 1 : Int32) (fun v2_27 => lt (v3_18 + 1 : Int32) (fun v3_28 => some (.inl (v2_27, v3_28), w25))))) else (some (.inr (.inr (.inr (v2_17))), w22)))) else (some (.inr (.inr (.inr (v2_17))), w20))) FU (0, 0) w13)) FU 0 w3)) FU 0 w
set_option maxRecDepth 20000 in
set_option maxHeartbeats 4000000 in
theorem ev_143 {d : Nat} (hd : 5 ≤ d) {o0 : Nat} {o1 : Nat} {w : Wd} (hT : TY w) (ho0 : ist o0 3) (ho1 : ist o1 1) : sp (sh_143 o0 o1 w) (fun r w' => TY w' ∧ Ev d 143 [.ref o0, .ref o1] w (cvI r) w') := by
  obtain ⟨d, rfl⟩ : ∃ d', d = d' + 1 := ⟨d - 1, by omega⟩
  refine ev_of (M := M143) zin_143 rfl (by decide) rfl (Nat.le_of_ble_eq_true rfl) (Or.inr ⟨o0, _, rfl, ho0⟩) hT ?_
  show sp _ (PP (Ev d) M143 (KR cvI) (0, [(0, .ref o0), (1, .ref o1)], [], w))
  unfold sh_143
  refine s_const rfl ?_
  refine s_istoreF [(0, .ref o0), (1, .ref o1), (2, .int 0)] rfl (subl_c rfl (subl_c rfl (subl_c rfl (subl_n)))) ?_
  let lvL2 : Int32 → List (Nat × Value) := fun s31 => [(0, .ref o0), (1, .ref o1), (2, .int s31)]
  refine s_loop lvL2 (subl_c rfl (subl_c rfl (subl_c rfl (subl_n)))) hT (fun v2_1 w3 hT3 => ?_)
  show sp _ (PP _ _ _ (2, [(0, .ref o0), (1, .ref o1), (2, .int v2_1)], [], w3))
  refine s_iload rfl rfl ?_
  refine s_const rfl ?_
  refine sp_ite (fun h4 => ?_) (fun h4 => ?_)
  · refine s_ic0 rfl (zc_ge0 h4) ?_
    refine s_aload rfl rfl ?_
    refine s_getF rfl hT3 ho0 rfl ?_
    refine s_iload rfl rfl ?_
    refine s_iload rfl rfl ?_
    refine s_aload rfl rfl ?_
    refine s_getI rfl hT3 ho0 ?_
    refine sp_lt (fun z5 hz5 => ?_)
    refine s_dia (35, [(0, .ref o0), (1, .ref o1), (2, .int v2_1)], [.int (bi z5), .int v2_1, .ref (o0 + 2)], w3) ?_ (fun hk8 => ?_)
    · refine s_zast rfl hT3 (of_3_3 ho0) (nar_bi _) (fun w6 hT6 => ?_)
      refine s_iincF (fun v2_7 => [(0, .ref o0), (1, .ref o1), (2, .int v2_7)]) rfl rfl (fun _ => subl_c rfl (subl_c rfl (subl_c rfl (subl_n)))) (fun v2_7 => ?_)
      refine s_goto rfl ?_
      exact s_back (lvL := lvL2) (s' := v2_7) (subl_c rfl (subl_c rfl (subl_c rfl (subl_n)))) hT6 (fun _ _ h => h)
    · by_cases h9 : v2_1 = wI w3 o0 0
      · refine s_ic1 rfl (zc_eq1 h9) ?_
        refine s_const rfl ?_
        refine s_goto rfl ?_
        refine s_cong ?_ hk8
        (rw [hz5, if_pos h9]; rfl)
      · refine s_ic0 rfl (zc_eq0 h9) ?_
        refine s_iload rfl rfl ?_
        refine s_aload rfl rfl ?_
        refine s_getI rfl hT3 ho0 ?_
        by_cases h10 : v2_1 = wI w3 o0 1
        · refine s_ic0 rfl (zc_ne0 h10) ?_
          refine s_const rfl ?_
          refine s_goto rfl ?_
          refine s_cong ?_ hk8
          (rw [hz5, if_neg h9, if_pos h10]; rfl)
        · refine s_ic1 rfl (zc_ne1 h10) ?_
          refine s_const rfl ?_
          refine s_cong ?_ hk8
          (rw [hz5, if_neg h9, if_neg h10]; rfl)
  · refine s_ic1 rfl (zc_ge1 h4) ?_
    refine s_const rfl ?_
    refine s_istoreF [(0, .ref o0), (1, .ref o1), (2, .int 0)] rfl (subl_c rfl (subl_c rfl (subl_c rfl (subl_n)))) ?_
    let lvL12 : Int32 → List (Nat × Value) := fun s30 => [(0, .ref o0), (1, .ref o1), (2, .int s30)]
    refine s_loop lvL12 (subl_c rfl (subl_c rfl (subl_c rfl (subl_n)))) hT3 (fun v2_11 w13 hT13 => ?_)
    show sp _ (PP _ _ _ (44, [(0, .ref o0), (1, .ref o1), (2, .int v2_11)], [], w13))
    refine s_iload rfl rfl ?_
    refine s_const rfl ?_
    refine sp_ite (fun h14 => ?_) (fun h14 => ?_)
    · refine s_ic0 rfl (zc_ge0 h14) ?_
      refine s_aload rfl rfl ?_
      refine s_getF rfl hT13 ho0 rfl ?_
      refine s_iload rfl rfl ?_
      refine s_const rfl ?_
      refine s_zast rfl hT13 (of_3_4 ho0) rfl (fun w15 hT15 => ?_)
      refine s_iincF (fun v2_16 => [(0, .ref o0), (1, .ref o1), (2, .int v2_16)]) rfl rfl (fun _ => subl_c rfl (subl_c rfl (subl_c rfl (subl_n)))) (fun v2_16 => ?_)
      refine s_goto rfl ?_
      exact s_back (lvL := lvL12) (s' := v2_16) (subl_c rfl (subl_c rfl (subl_c rfl (subl_n)))) hT15 (fun _ _ h => h)
    · refine s_ic1 rfl (zc_ge1 h14) ?_
      refine s_const rfl ?_
      refine s_istoreF [(0, .ref o0), (1, .ref o1), (2, .int 0)] rfl (subl_c rfl (subl_c rfl (subl_c rfl (subl_n)))) ?_
      refine s_const rfl ?_
      refine s_istoreF [(0, .ref o0), (1, .ref o1), (2, .int 0), (3, .int 0)] rfl (subl_c rfl (subl_c rfl (subl_c rfl (subl_c rfl (subl_n))))) ?_
      let lvL19 : Int32 × Int32 → List (Nat × Value) := fun s29 => [(0, .ref o0), (1, .ref o1), (2, .int (s29.1)), (3, .int (s29.2))]
      refine s_loop lvL19 (subl_c rfl (subl_c rfl (subl_c rfl (subl_c rfl (subl_n))))) hT13 (fun s29 w20 hT20 => ?_)
      obtain ⟨v2_17, v3_18⟩ := s29
      show sp _ (PP _ _ _ (68, [(0, .ref o0), (1, .ref o1), (2, .int v2_17), (3, .int v3_18)], [], w20))
      refine s_iload rfl rfl ?_
      refine s_const rfl ?_
      refine sp_ite (fun h21 => ?_) (fun h21 => ?_)
      · refine s_ic0 rfl (zc_ge0 h21) ?_
        refine s_aload rfl rfl ?_
        refine s_aload rfl rfl ?_
        refine s_const rfl ?_
        refine s_aload rfl rfl ?_
        refine s_getI rfl hT20 ho0 ?_
        refine s_bin rfl rfl ?_
        refine s_const rfl ?_
        refine s_bin rfl rfl ?_
        refine s_const rfl ?_
        refine s_aload rfl rfl ?_
        refine s_getI rfl hT20 ho0 ?_
        refine s_bin rfl rfl ?_
        refine s_callZ [.ref o0, .ref o1, .int ((2 * (wI w20 o0 0)) + 1), .int (2 * (wI w20 o0 1))] [] rfl rfl (Nat.le_of_ble_eq_true rfl) (ev_144 (d := d) (by omega) hT20 ho0 ho1) (fun r23 w22 hT22 => ?_)
        refine sp_ite (fun h24 => ?_) (fun h24 => ?_)
        · refine s_if0 rfl (zb_eq0 h24) ?_
          refine s_aload rfl rfl ?_
          refine s_aload rfl rfl ?_
          refine s_callV [.ref o0, .ref o1] [] rfl rfl (Nat.le_of_ble_eq_true rfl) (ev_148 (d := d) (by omega) hT22 ho0 ho1) (fun _ w25 hT25 => ?_)
          refine s_iincF (fun v2_27 => [(0, .ref o0), (1, .ref o1), (2, .int v2_27), (3, .int v3_18)]) rfl rfl (fun _ => subl_c rfl (subl_c rfl (subl_c rfl (subl_c rfl (subl_n))))) (fun v2_27 => ?_)
          refine s_iincF (fun v3_28 => [(0, .ref o0), (1, .ref o1), (2, .int v2_27), (3, .int v3_28)]) rfl rfl (fun _ => subl_c rfl (subl_c rfl (subl_c rfl (subl_c rfl (subl_n))))) (fun v3_28 => ?_)
          refine s_goto rfl ?_
          exact s_back (lvL := lvL19) (s' := (v2_27, v3_28)) (subl_c rfl (subl_c rfl (subl_c rfl (subl_c rfl (subl_n))))) hT25 (fun _ _ h => h)
        · refine s_if1 rfl (zb_eq1 h24) ?_
          refine s_iload rfl rfl ?_
          exact s_retI rfl rfl hT22 (fun _ _ h => h)
      · refine s_ic1 rfl (zc_ge1 h21) ?_
        refine s_iload rfl rfl ?_
        exact s_retI rfl rfl hT20 (fun _ _ h => h)
/-- RugReader$Lookout.find(LRugReader$House;II)I -/
def sh_142 (o0 : Nat) (o1 : Nat) (p2 : Int32) (p3 : Int32) (w : Wd) : Option (Int32 × Wd) := stI w o0 0 p2 (fun w1 => stI w1 o0 1 p3 (fun w2 => stI w2 o0 8 0 (fun w3 => cl (sh_50 o1 p2 w3) (fun r5 w4 => if r5 = true then (some (0, w4)) else (cl (sh_50 o1 p3 w4) (fun r8 w7 => if r8 = true then (some (0, w7)) else (itM (fun (v4_10 : Int32) (w12 : Wd) => if v4_10 < 144 then (cl (sh_50 o1 v4_10 w12) (fun r15 w14 => gd (ib v4_10 144) (stI w14 (o0 + 1) (ix v4_10) (bi r15) (fun w16 => lt (v4_10 + 1 : Int32) (fun v4_17 => some (.inl v4_17, w16)))))) else (cl (sh_143 o0 o1 w12) (fun r19 w18 => cl (sh_19 r19 4 w18) (fun r21 w20 => itM (fun (v5_22 : Int32) (w24 : Wd) => if v5_22 < 144 then (if wI w24 o0 8 < r21 then (gd (ib v5_22 144) (if wI w24 (o0 + 2) (ix v5_22) = 0 then (lt (v5_22 + 1 : Int32) (fun v5_28 => some (.inl v5_28, w24))) else (if v5_22 = wI w24 o0 0 then (lt (v5_22 + 1 : Int32) (fun v5_30 => some (.inl v5_30, w24))) else (if v5_22 = wI w24 o0 1 then (lt (v5_22 + 1 : Int32) (fun v5_32 => some (.inl v5_32, w24))) else (cl (sh_144 o0 o1 (2 * v5_22) ((2 * v5_22) + 1) w24) (fun r34 w33 => if r34 = true then (lt (v5_22 + 1 : Int32) (fun v5_36 => some (.inl v5_36, w33))) else (gd (ib (wI w33 o0 8) 4) (stI w33 (o0 + 6) (ix (wI w33 o0 8)) v5_22 (fun w37 => stI w37 o0 8 ((wI w37 o0 8) + 1) (fun w38 => gd (ib v5_22 144) (stI w38 (o0 + 1) (ix v5_22) 1 (fun w39 => cl (sh_143 o0 o1 w39) (fun r41 w40 => lt (v5_22 + 1 : Int32) (fun v5_42 => some (.inl v5_42, w40))))))))))))))) else (some (.inr (.inr (wI w24 o0 8)), w24))) else (some (.inr (.inr (wI w24 o0 8)), w24))) FU 0 w20)))) FU 0 w7)))))))
set_option maxRecDepth 20000 in
set_option maxHeartbeats 4000000 in
theorem ev_142 {d : Nat} (hd : 6 ≤ d) {o0 : Nat} {o1 : Nat} {p2 : Int32} {p3 : Int32} {w : Wd} (hT : TY w) (ho0 : ist o0 3) (ho1 : ist o1 1) : sp (sh_142 o0 o1 p2 p3 w) (fun r w' => TY w' ∧ Ev d 142 [.ref o0, .ref o1, .int p2, .int p3] w (cvI r) w') := by
  obtain ⟨d, rfl⟩ : ∃ d', d = d' + 1 := ⟨d - 1, by omega⟩
  refine ev_of (M := M142) zin_142 rfl (by decide) rfl (Nat.le_of_ble_eq_true rfl) (Or.inr ⟨o0, _, rfl, ho0⟩) hT ?_
  show sp _ (PP (Ev d) M142 (KR cvI) (0, [(0, .ref o0), (1, .ref o1), (2, .int p2), (3, .int p3)], [], w))
  unfold sh_142
  refine s_aload rfl rfl ?_
  refine s_iload rfl rfl ?_
  refine s_putI rfl hT ho0 rfl (fun w1 hT1 => ?_)
  refine s_aload rfl rfl ?_
  refine s_iload rfl rfl ?_
  refine s_putI rfl hT1 ho0 rfl (fun w2 hT2 => ?_)
  refine s_aload rfl rfl ?_
  refine s_const rfl ?_
  refine s_putI rfl hT2 ho0 rfl (fun w3 hT3 => ?_)
  refine s_aload rfl rfl ?_
  refine s_iload rfl rfl ?_
  refine s_callZ [.ref o1, .int p2] [] rfl rfl (Nat.le_of_ble_eq_true rfl) (ev_50 (d := d) (by omega) hT3 ho1) (fun r5 w4 hT4 => ?_)
  refine sp_ite (fun h6 => ?_) (fun h6 => ?_)
  · refine s_if1 rfl (zb_ne1 h6) ?_
    refine s_const rfl ?_
    exact s_retI rfl rfl hT4 (fun _ _ h => h)
  · refine s_if0 rfl (zb_ne0 h6) ?_
    refine s_aload rfl rfl ?_
    refine s_iload rfl rfl ?_
    refine s_callZ [.ref o1, .int p3] [] rfl rfl (Nat.le_of_ble_eq_true rfl) (ev_50 (d := d) (by omega) hT4 ho1) (fun r8 w7 hT7 => ?_)
    refine sp_ite (fun h9 => ?_) (fun h9 => ?_)
    · refine s_if0 rfl (zb_eq0 h9) ?_
      refine s_const rfl ?_
      exact s_retI rfl rfl hT7 (fun _ _ h => h)
    · refine s_if1 rfl (zb_eq1 h9) ?_
      refine s_const rfl ?_
      refine s_istoreF [(0, .ref o0), (1, .ref o1), (4, .int 0)] rfl (subl_c rfl (subl_c rfl (subl_c rfl (subl_n)))) ?_
      let lvL11 : Int32 → List (Nat × Value) := fun s44 => [(0, .ref o0), (1, .ref o1), (4, .int s44)]
      refine s_loop lvL11 (subl_c rfl (subl_c rfl (subl_c rfl (subl_n)))) hT7 (fun v4_10 w12 hT12 => ?_)
      show sp _ (PP _ _ _ (36, [(0, .ref o0), (1, .ref o1), (4, .int v4_10)], [], w12))
      refine s_iload rfl rfl ?_
      refine s_const rfl ?_
      refine sp_ite (fun h13 => ?_) (fun h13 => ?_)
      · refine s_ic0 rfl (zc_ge0 h13) ?_
        refine s_aload rfl rfl ?_
        refine s_getF rfl hT12 ho0 rfl ?_
        refine s_iload rfl rfl ?_
        refine s_aload rfl rfl ?_
        refine s_iload rfl rfl ?_
        refine s_callZ [.ref o1, .int v4_10] [.int v4_10, .ref (o0 + 1)] rfl rfl (Nat.le_of_ble_eq_true rfl) (ev_50 (d := d) (by omega) hT12 ho1) (fun r15 w14 hT14 => ?_)
        refine s_zast rfl hT14 (of_3_2 ho0) (nar_bi _) (fun w16 hT16 => ?_)
        refine s_iincF (fun v4_17 => [(0, .ref o0), (1, .ref o1), (4, .int v4_17)]) rfl rfl (fun _ => subl_c rfl (subl_c rfl (subl_c rfl (subl_n)))) (fun v4_17 => ?_)
        refine s_goto rfl ?_
        exact s_back (lvL := lvL11) (s' := v4_17) (subl_c rfl (subl_c rfl (subl_c rfl (subl_n)))) hT16 (fun _ _ h => h)
      · refine s_ic1 rfl (zc_ge1 h13) ?_
        refine s_aload rfl rfl ?_
        refine s_aload rfl rfl ?_
        refine s_callI [.ref o0, .ref o1] [] rfl rfl (Nat.le_of_ble_eq_true rfl) (ev_143 (d := d) (by omega) hT12 ho0 ho1) (fun r19 w18 hT18 => ?_)
        refine s_const rfl ?_
        refine s_callI [.int r19, .int 4] [] rfl rfl (Nat.le_of_ble_eq_true rfl) (ev_19 (d := d) (by omega) hT18 ) (fun r21 w20 hT20 => ?_)
        refine s_istoreF [(0, .ref o0), (1, .ref o1), (4, .int r21)] rfl (subl_c rfl (subl_c rfl (subl_c rfl (subl_n)))) ?_
        refine s_const rfl ?_
        refine s_istoreF [(0, .ref o0), (1, .ref o1), (4, .int r21), (5, .int 0)] rfl (subl_c rfl (subl_c rfl (subl_c rfl (subl_c rfl (subl_n))))) ?_
        let lvL23 : Int32 → List (Nat × Value) := fun s43 => [(0, .ref o0), (1, .ref o1), (4, .int r21), (5, .int s43)]
        refine s_loop lvL23 (subl_c rfl (subl_c rfl (subl_c rfl (subl_c rfl (subl_n))))) hT20 (fun v5_22 w24 hT24 => ?_)
        show sp _ (PP _ _ _ (77, [(0, .ref o0), (1, .ref o1), (4, .int r21), (5, .int v5_22)], [], w24))
        refine s_iload rfl rfl ?_
        refine s_const rfl ?_
        refine sp_ite (fun h25 => ?_) (fun h25 => ?_)
        · refine s_ic0 rfl (zc_ge0 h25) ?_
          refine s_aload rfl rfl ?_
          refine s_getI rfl hT24 ho0 ?_
          refine s_iload rfl rfl ?_
          refine sp_ite (fun h26 => ?_) (fun h26 => ?_)
          · refine s_ic0 rfl (zc_ge0 h26) ?_
            refine s_aload rfl rfl ?_
            refine s_getF rfl hT24 ho0 rfl ?_
            refine s_iload rfl rfl ?_
            refine s_bald rfl hT24 (of_3_3 ho0) (Or.inr rfl) ?_
            refine sp_ite (fun h27 => ?_) (fun h27 => ?_)
            · refine s_if1 rfl (zc_eq1 h27) ?_
              refine s_iincF (fun v5_28 => [(0, .ref o0), (1, .ref o1), (4, .int r21), (5, .int v5_28)]) rfl rfl (fun _ => subl_c rfl (subl_c rfl (subl_c rfl (subl_c rfl (subl_n))))) (fun v5_28 => ?_)
              refine s_goto rfl ?_
              exact s_back (lvL := lvL23) (s' := v5_28) (subl_c rfl (subl_c rfl (subl_c rfl (subl_c rfl (subl_n))))) hT24 (fun _ _ h => h)
            · refine s_if0 rfl (zc_eq0 h27) ?_
              refine s_iload rfl rfl ?_
              refine s_aload rfl rfl ?_
              refine s_getI rfl hT24 ho0 ?_
              refine sp_ite (fun h29 => ?_) (fun h29 => ?_)
              · refine s_ic1 rfl (zc_eq1 h29) ?_
                refine s_iincF (fun v5_30 => [(0, .ref o0), (1, .ref o1), (4, .int r21), (5, .int v5_30)]) rfl rfl (fun _ => subl_c rfl (subl_c rfl (subl_c rfl (subl_c rfl (subl_n))))) (fun v5_30 => ?_)
                refine s_goto rfl ?_
                exact s_back (lvL := lvL23) (s' := v5_30) (subl_c rfl (subl_c rfl (subl_c rfl (subl_c rfl (subl_n))))) hT24 (fun _ _ h => h)
              · refine s_ic0 rfl (zc_eq0 h29) ?_
                refine s_iload rfl rfl ?_
                refine s_aload rfl rfl ?_
                refine s_getI rfl hT24 ho0 ?_
                refine sp_ite (fun h31 => ?_) (fun h31 => ?_)
                · refine s_ic1 rfl (zc_eq1 h31) ?_
                  refine s_iincF (fun v5_32 => [(0, .ref o0), (1, .ref o1), (4, .int r21), (5, .int v5_32)]) rfl rfl (fun _ => subl_c rfl (subl_c rfl (subl_c rfl (subl_c rfl (subl_n))))) (fun v5_32 => ?_)
                  refine s_goto rfl ?_
                  exact s_back (lvL := lvL23) (s' := v5_32) (subl_c rfl (subl_c rfl (subl_c rfl (subl_c rfl (subl_n))))) hT24 (fun _ _ h => h)
                · refine s_ic0 rfl (zc_eq0 h31) ?_
                  refine s_aload rfl rfl ?_
                  refine s_aload rfl rfl ?_
                  refine s_const rfl ?_
                  refine s_iload rfl rfl ?_
                  refine s_bin rfl rfl ?_
                  refine s_const rfl ?_
                  refine s_iload rfl rfl ?_
                  refine s_bin rfl rfl ?_
                  refine s_const rfl ?_
                  refine s_bin rfl rfl ?_
                  refine s_callZ [.ref o0, .ref o1, .int (2 * v5_22), .int ((2 * v5_22) + 1)] [] rfl rfl (Nat.le_of_ble_eq_true rfl) (ev_144 (d := d) (by omega) hT24 ho0 ho1) (fun r34 w33 hT33 => ?_)
                  refine sp_ite (fun h35 => ?_) (fun h35 => ?_)
                  · refine s_if1 rfl (zb_ne1 h35) ?_
                    refine s_iincF (fun v5_36 => [(0, .ref o0), (1, .ref o1), (4, .int r21), (5, .int v5_36)]) rfl rfl (fun _ => subl_c rfl (subl_c rfl (subl_c rfl (subl_c rfl (subl_n))))) (fun v5_36 => ?_)
                    refine s_goto rfl ?_
                    exact s_back (lvL := lvL23) (s' := v5_36) (subl_c rfl (subl_c rfl (subl_c rfl (subl_c rfl (subl_n))))) hT33 (fun _ _ h => h)
                  · refine s_if0 rfl (zb_ne0 h35) ?_
                    refine s_aload rfl rfl ?_
                    refine s_getF rfl hT33 ho0 rfl ?_
                    refine s_aload rfl rfl ?_
                    refine s_getI rfl hT33 ho0 ?_
                    refine s_iload rfl rfl ?_
                    refine s_iast rfl hT33 (of_3_9 ho0) (fun w37 hT37 => ?_)
                    refine s_aload rfl rfl ?_
                    refine s_dup rfl rfl ?_
                    refine s_getI rfl hT37 ho0 ?_
                    refine s_const rfl ?_
                    refine s_bin rfl rfl ?_
                    refine s_putI rfl hT37 ho0 rfl (fun w38 hT38 => ?_)
                    refine s_aload rfl rfl ?_
                    refine s_getF rfl hT38 ho0 rfl ?_
                    refine s_iload rfl rfl ?_
                    refine s_const rfl ?_
                    refine s_zast rfl hT38 (of_3_2 ho0) rfl (fun w39 hT39 => ?_)
                    refine s_aload rfl rfl ?_
                    refine s_aload rfl rfl ?_
                    refine s_callI [.ref o0, .ref o1] [] rfl rfl (Nat.le_of_ble_eq_true rfl) (ev_143 (d := d) (by omega) hT39 ho0 ho1) (fun r41 w40 hT40 => ?_)
                    refine s_pop rfl rfl ?_
                    refine s_iincF (fun v5_42 => [(0, .ref o0), (1, .ref o1), (4, .int r21), (5, .int v5_42)]) rfl rfl (fun _ => subl_c rfl (subl_c rfl (subl_c rfl (subl_c rfl (subl_n))))) (fun v5_42 => ?_)
                    refine s_goto rfl ?_
                    exact s_back (lvL := lvL23) (s' := v5_42) (subl_c rfl (subl_c rfl (subl_c rfl (subl_c rfl (subl_n))))) hT40 (fun _ _ h => h)
          · refine s_ic1 rfl (zc_ge1 h26) ?_
            refine s_aload rfl rfl ?_
            refine s_getI rfl hT24 ho0 ?_
            exact s_retI rfl rfl hT24 (fun _ _ h => h)
        · refine s_ic1 rfl (zc_ge1 h25) ?_
          refine s_aload rfl rfl ?_
          refine s_getI rfl hT24 ho0 ?_
          exact s_retI rfl rfl hT24 (fun _ _ h => h)
/-- RugReader.seen(II)I -/
def sh_138 (o0 : Nat) (p1 : Int32) (p2 : Int32) (w : Wd) : Option (Int32 × Wd) := der (wR w o0 2) (fun a1 => cl (sh_139 a1 p1 w) (fun r3 w2 => if r3 = true then (der (wR w2 o0 2) (fun a5 => cl (sh_139 a5 p2 w2) (fun r7 w6 => if r7 = true then (der (wR w6 o0 2) (fun a9 => cl (sh_140 a9 p1 w6) (fun r11 w10 => der (wR w10 o0 2) (fun a12 => cl (sh_140 a12 p2 w10) (fun r14 w13 => if r11 = r14 then (some ((-1), w13)) else (der (wR w13 o0 2) (fun a16 => cl (sh_141 a16 r11 r14 w13) (fun r18 w17 => if r18 = true then (some ((-1), w17)) else (der (wR w17 o0 2) (fun a20 => cl (sh_142 (o0 + 67) a20 r11 r14 w17) (fun r22 w21 => some (r22, w21)))))))))))) else (some ((-1), w6))))) else (some ((-1), w2))))
set_option maxRecDepth 20000 in
set_option maxHeartbeats 4000000 in
theorem ev_138 {d : Nat} (hd : 7 ≤ d) {o0 : Nat} {p1 : Int32} {p2 : Int32} {w : Wd} (hT : TY w) (ho0 : ist o0 9) : sp (sh_138 o0 p1 p2 w) (fun r w' => TY w' ∧ Ev d 138 [.ref o0, .int p1, .int p2] w (cvI r) w') := by
  obtain ⟨d, rfl⟩ : ∃ d', d = d' + 1 := ⟨d - 1, by omega⟩
  refine ev_of (M := M138) zin_138 rfl (by decide) rfl (Nat.le_of_ble_eq_true rfl) (Or.inr ⟨o0, _, rfl, ho0⟩) hT ?_
  show sp _ (PP (Ev d) M138 (KR cvI) (0, [(0, .ref o0), (1, .int p1), (2, .int p2)], [], w))
  unfold sh_138
  refine s_aload rfl rfl ?_
  refine s_getD rfl hT ho0 (by decide) rfl (fun a1 ha1 => ?_)
  refine s_iload rfl rfl ?_
  refine s_callZ [.ref a1, .int p1] [] rfl rfl (Nat.le_of_ble_eq_true rfl) (ev_139 (d := d) (by omega) hT ha1) (fun r3 w2 hT2 => ?_)
  refine sp_ite (fun h4 => ?_) (fun h4 => ?_)
  · refine s_if0 rfl (zb_eq0 h4) ?_
    refine s_aload rfl rfl ?_
    refine s_getD rfl hT2 ho0 (by decide) rfl (fun a5 ha5 => ?_)
    refine s_iload rfl rfl ?_
    refine s_callZ [.ref a5, .int p2] [] rfl rfl (Nat.le_of_ble_eq_true rfl) (ev_139 (d := d) (by omega) hT2 ha5) (fun r7 w6 hT6 => ?_)
    refine sp_ite (fun h8 => ?_) (fun h8 => ?_)
    · refine s_if1 rfl (zb_ne1 h8) ?_
      refine s_aload rfl rfl ?_
      refine s_getD rfl hT6 ho0 (by decide) rfl (fun a9 ha9 => ?_)
      refine s_iload rfl rfl ?_
      refine s_callI [.ref a9, .int p1] [] rfl rfl (Nat.le_of_ble_eq_true rfl) (ev_140 (d := d) (by omega) hT6 ha9) (fun r11 w10 hT10 => ?_)
      refine s_istoreF [(0, .ref o0), (2, .int p2), (3, .int r11)] rfl (subl_c rfl (subl_c rfl (subl_c rfl (subl_n)))) ?_
      refine s_aload rfl rfl ?_
      refine s_getD rfl hT10 ho0 (by decide) rfl (fun a12 ha12 => ?_)
      refine s_iload rfl rfl ?_
      refine s_callI [.ref a12, .int p2] [] rfl rfl (Nat.le_of_ble_eq_true rfl) (ev_140 (d := d) (by omega) hT10 ha12) (fun r14 w13 hT13 => ?_)
      refine s_istoreF [(0, .ref o0), (3, .int r11), (4, .int r14)] rfl (subl_c rfl (subl_c rfl (subl_c rfl (subl_n)))) ?_
      refine s_iload rfl rfl ?_
      refine s_iload rfl rfl ?_
      refine sp_ite (fun h15 => ?_) (fun h15 => ?_)
      · refine s_ic1 rfl (zc_eq1 h15) ?_
        refine s_const rfl ?_
        exact s_retI rfl rfl hT13 (fun _ _ h => h)
      · refine s_ic0 rfl (zc_eq0 h15) ?_
        refine s_aload rfl rfl ?_
        refine s_getD rfl hT13 ho0 (by decide) rfl (fun a16 ha16 => ?_)
        refine s_iload rfl rfl ?_
        refine s_iload rfl rfl ?_
        refine s_callZ [.ref a16, .int r11, .int r14] [] rfl rfl (Nat.le_of_ble_eq_true rfl) (ev_141 (d := d) (by omega) hT13 ha16) (fun r18 w17 hT17 => ?_)
        refine sp_ite (fun h19 => ?_) (fun h19 => ?_)
        · refine s_if0 rfl (zb_eq0 h19) ?_
          refine s_const rfl ?_
          exact s_retI rfl rfl hT17 (fun _ _ h => h)
        · refine s_if1 rfl (zb_eq1 h19) ?_
          refine s_aload rfl rfl ?_
          refine s_getF rfl hT17 ho0 rfl ?_
          refine s_aload rfl rfl ?_
          refine s_getD rfl hT17 ho0 (by decide) rfl (fun a20 ha20 => ?_)
          refine s_iload rfl rfl ?_
          refine s_iload rfl rfl ?_
          refine s_callI [.ref (o0 + 67), .ref a20, .int r11, .int r14] [] rfl rfl (Nat.le_of_ble_eq_true rfl) (ev_142 (d := d) (by omega) hT17 (of_9_17 ho0) ha20) (fun r22 w21 hT21 => ?_)
          exact s_retI rfl rfl hT21 (fun _ _ h => h)
    · refine s_if0 rfl (zb_ne0 h8) ?_
      refine s_const rfl ?_
      exact s_retI rfl rfl hT6 (fun _ _ h => h)
  · refine s_if1 rfl (zb_eq1 h4) ?_
    refine s_const rfl ?_
    exact s_retI rfl rfl hT2 (fun _ _ h => h)
/-- RugReader$Lookout.laid(I)I -/
def sh_151 (o0 : Nat) (p1 : Int32) (w : Wd) : Option (Int32 × Wd) := if 0 ≤ p1 then (if p1 < wI w o0 8 then (if p1 < 4 then (gd (ib p1 4) (some (wI w (o0 + 6) (ix p1), w))) else (some ((-1), w))) else (some ((-1), w))) else (some ((-1), w))
set_option maxRecDepth 20000 in
set_option maxHeartbeats 4000000 in
theorem ev_151 {d : Nat} (hd : 1 ≤ d) {o0 : Nat} {p1 : Int32} {w : Wd} (hT : TY w) (ho0 : ist o0 3) : sp (sh_151 o0 p1 w) (fun r w' => TY w' ∧ Ev d 151 [.ref o0, .int p1] w (cvI r) w') := by
  obtain ⟨d, rfl⟩ : ∃ d', d = d' + 1 := ⟨d - 1, by omega⟩
  refine ev_of (M := M151) zin_151 rfl (by decide) rfl (Nat.le_of_ble_eq_true rfl) (Or.inr ⟨o0, _, rfl, ho0⟩) hT ?_
  show sp _ (PP (Ev d) M151 (KR cvI) (0, [(0, .ref o0), (1, .int p1)], [], w))
  unfold sh_151
  refine s_iload rfl rfl ?_
  refine sp_ite (fun h1 => ?_) (fun h1 => ?_)
  · refine s_if0 rfl (zc_lt0 h1) ?_
    refine s_iload rfl rfl ?_
    refine s_aload rfl rfl ?_
    refine s_getI rfl hT ho0 ?_
    refine sp_ite (fun h2 => ?_) (fun h2 => ?_)
    · refine s_ic0 rfl (zc_ge0 h2) ?_
      refine s_iload rfl rfl ?_
      refine s_const rfl ?_
      refine sp_ite (fun h3 => ?_) (fun h3 => ?_)
      · refine s_ic0 rfl (zc_ge0 h3) ?_
        refine s_aload rfl rfl ?_
        refine s_getF rfl hT ho0 rfl ?_
        refine s_iload rfl rfl ?_
        refine s_iald rfl hT (of_3_9 ho0) ?_
        refine s_goto rfl ?_
        exact s_retI rfl rfl hT (fun _ _ h => h)
      · refine s_ic1 rfl (zc_ge1 h3) ?_
        refine s_const rfl ?_
        exact s_retI rfl rfl hT (fun _ _ h => h)
    · refine s_ic1 rfl (zc_ge1 h2) ?_
      refine s_const rfl ?_
      exact s_retI rfl rfl hT (fun _ _ h => h)
  · refine s_if1 rfl (zc_lt1 h1) ?_
    refine s_const rfl ?_
    exact s_retI rfl rfl hT (fun _ _ h => h)
/-- RugReader.lay(I)I -/
def sh_150 (o0 : Nat) (p1 : Int32) (w : Wd) : Option (Int32 × Wd) := cl (sh_151 (o0 + 67) p1 w) (fun r2 w1 => some (r2, w1))
set_option maxRecDepth 20000 in
set_option maxHeartbeats 4000000 in
theorem ev_150 {d : Nat} (hd : 2 ≤ d) {o0 : Nat} {p1 : Int32} {w : Wd} (hT : TY w) (ho0 : ist o0 9) : sp (sh_150 o0 p1 w) (fun r w' => TY w' ∧ Ev d 150 [.ref o0, .int p1] w (cvI r) w') := by
  obtain ⟨d, rfl⟩ : ∃ d', d = d' + 1 := ⟨d - 1, by omega⟩
  refine ev_of (M := M150) zin_150 rfl (by decide) rfl (Nat.le_of_ble_eq_true rfl) (Or.inr ⟨o0, _, rfl, ho0⟩) hT ?_
  show sp _ (PP (Ev d) M150 (KR cvI) (0, [(0, .ref o0), (1, .int p1)], [], w))
  unfold sh_150
  refine s_aload rfl rfl ?_
  refine s_getF rfl hT ho0 rfl ?_
  refine s_iload rfl rfl ?_
  refine s_callI [.ref (o0 + 67), .int p1] [] rfl rfl (Nat.le_of_ble_eq_true rfl) (ev_151 (d := d) (by omega) hT (of_9_17 ho0)) (fun r2 w1 hT1 => ?_)
  exact s_retI rfl rfl hT1 (fun _ _ h => h)
/-- RugReader$House.waysOver(I)I -/
def sh_153 (o0 : Nat) (p1 : Int32) (w : Wd) : Option (Int32 × Wd) := itM (fun (s13 : Int32 × Int32) (w4 : Wd) => match s13 with | (v2_1, v3_2) => if v3_2 < wI w4 o0 4 then (if v3_2 < 6 then (cl (sh_111 o0 v3_2 p1 w4) (fun r8 w7 => if 0 < r8 then (lt (v2_1 ||| (1 <<< (v3_2 &&& 31)) : Int32) (fun v2_10 => lt (v3_2 + 1 : Int32) (fun v3_11 => some (.inl (v2_10, v3_11), w7)))) else (lt (v3_2 + 1 : Int32) (fun v3_12 => some (.inl (v2_1, v3_12), w7))))) else (some (.inr (v2_1), w4))) else (some (.inr (v2_1), w4))) FU (0, 0) w
set_option maxRecDepth 20000 in
set_option maxHeartbeats 4000000 in
theorem ev_153 {d : Nat} (hd : 5 ≤ d) {o0 : Nat} {p1 : Int32} {w : Wd} (hT : TY w) (ho0 : ist o0 1) : sp (sh_153 o0 p1 w) (fun r w' => TY w' ∧ Ev d 153 [.ref o0, .int p1] w (cvI r) w') := by
  obtain ⟨d, rfl⟩ : ∃ d', d = d' + 1 := ⟨d - 1, by omega⟩
  refine ev_of (M := M153) zin_153 rfl (by decide) rfl (Nat.le_of_ble_eq_true rfl) (Or.inr ⟨o0, _, rfl, ho0⟩) hT ?_
  show sp _ (PP (Ev d) M153 (KR cvI) (0, [(0, .ref o0), (1, .int p1)], [], w))
  unfold sh_153
  refine s_const rfl ?_
  refine s_istoreF [(0, .ref o0), (1, .int p1), (2, .int 0)] rfl (subl_c rfl (subl_c rfl (subl_c rfl (subl_n)))) ?_
  refine s_const rfl ?_
  refine s_istoreF [(0, .ref o0), (1, .int p1), (2, .int 0), (3, .int 0)] rfl (subl_c rfl (subl_c rfl (subl_c rfl (subl_c rfl (subl_n))))) ?_
  let lvL3 : Int32 × Int32 → List (Nat × Value) := fun s13 => [(0, .ref o0), (1, .int p1), (2, .int (s13.1)), (3, .int (s13.2))]
  refine s_loop lvL3 (subl_c rfl (subl_c rfl (subl_c rfl (subl_c rfl (subl_n))))) hT (fun s13 w4 hT4 => ?_)
  obtain ⟨v2_1, v3_2⟩ := s13
  show sp _ (PP _ _ _ (4, [(0, .ref o0), (1, .int p1), (2, .int v2_1), (3, .int v3_2)], [], w4))
  refine s_iload rfl rfl ?_
  refine s_aload rfl rfl ?_
  refine s_getI rfl hT4 ho0 ?_
  refine sp_ite (fun h5 => ?_) (fun h5 => ?_)
  · refine s_ic0 rfl (zc_ge0 h5) ?_
    refine s_iload rfl rfl ?_
    refine s_const rfl ?_
    refine sp_ite (fun h6 => ?_) (fun h6 => ?_)
    · refine s_ic0 rfl (zc_ge0 h6) ?_
      refine s_aload rfl rfl ?_
      refine s_iload rfl rfl ?_
      refine s_iload rfl rfl ?_
      refine s_callI [.ref o0, .int v3_2, .int p1] [] rfl rfl (Nat.le_of_ble_eq_true rfl) (ev_111 (d := d) (by omega) hT4 ho0) (fun r8 w7 hT7 => ?_)
      refine sp_ite (fun h9 => ?_) (fun h9 => ?_)
      · refine s_if0 rfl (zc_le0 h9) ?_
        refine s_iload rfl rfl ?_
        refine s_const rfl ?_
        refine s_iload rfl rfl ?_
        refine s_bin rfl rfl ?_
        refine s_bin rfl rfl ?_
        refine s_nmI (fun v2_10 => ?_)
        refine s_istoreF [(0, .ref o0), (1, .int p1), (2, .int v2_10), (3, .int v3_2)] rfl (subl_c rfl (subl_c rfl (subl_c rfl (subl_c rfl (subl_n))))) ?_
        refine s_iincF (fun v3_11 => [(0, .ref o0), (1, .int p1), (2, .int v2_10), (3, .int v3_11)]) rfl rfl (fun _ => subl_c rfl (subl_c rfl (subl_c rfl (subl_c rfl (subl_n))))) (fun v3_11 => ?_)
        refine s_goto rfl ?_
        exact s_back (lvL := lvL3) (s' := (v2_10, v3_11)) (subl_c rfl (subl_c rfl (subl_c rfl (subl_c rfl (subl_n))))) hT7 (fun _ _ h => h)
      · refine s_if1 rfl (zc_le1 h9) ?_
        refine s_iincF (fun v3_12 => [(0, .ref o0), (1, .int p1), (2, .int v2_1), (3, .int v3_12)]) rfl rfl (fun _ => subl_c rfl (subl_c rfl (subl_c rfl (subl_c rfl (subl_n))))) (fun v3_12 => ?_)
        refine s_goto rfl ?_
        exact s_back (lvL := lvL3) (s' := (v2_1, v3_12)) (subl_c rfl (subl_c rfl (subl_c rfl (subl_c rfl (subl_n))))) hT7 (fun _ _ h => h)
    · refine s_ic1 rfl (zc_ge1 h6) ?_
      refine s_iload rfl rfl ?_
      exact s_retI rfl rfl hT4 (fun _ _ h => h)
  · refine s_ic1 rfl (zc_ge1 h5) ?_
    refine s_iload rfl rfl ?_
    exact s_retI rfl rfl hT4 (fun _ _ h => h)
/-- RugReader.spot()I -/
def sh_152 (o0 : Nat) (w : Wd) : Option (Int32 × Wd) := itM (fun (s15 : Int32 × Int32 × Int32) (w5 : Wd) => match s15 with | (v1_1, v2_2, v3_3) => if v3_3 < 144 then (der (wR w5 o0 2) (fun a7 => cl (sh_153 a7 v3_3 w5) (fun r9 w8 => cl (sh_114 r9 w8) (fun r11 w10 => if v2_2 < r11 then (lt (v3_3 + 1 : Int32) (fun v3_13 => some (.inl (v3_3, r11, v3_13), w10))) else (lt (v3_3 + 1 : Int32) (fun v3_14 => some (.inl (v1_1, v2_2, v3_14), w10))))))) else (some (.inr (v1_1), w5))) FU ((-1), 0, 0) w
set_option maxRecDepth 20000 in
set_option maxHeartbeats 4000000 in
theorem ev_152 {d : Nat} (hd : 6 ≤ d) {o0 : Nat} {w : Wd} (hT : TY w) (ho0 : ist o0 9) : sp (sh_152 o0 w) (fun r w' => TY w' ∧ Ev d 152 [.ref o0] w (cvI r) w') := by
  obtain ⟨d, rfl⟩ : ∃ d', d = d' + 1 := ⟨d - 1, by omega⟩
  refine ev_of (M := M152) zin_152 rfl (by decide) rfl (Nat.le_of_ble_eq_true rfl) (Or.inr ⟨o0, _, rfl, ho0⟩) hT ?_
  show sp _ (PP (Ev d) M152 (KR cvI) (0, [(0, .ref o0)], [], w))
  unfold sh_152
  refine s_const rfl ?_
  refine s_istoreF [(0, .ref o0), (1, .int (-1))] rfl (subl_c rfl (subl_c rfl (subl_n))) ?_
  refine s_const rfl ?_
  refine s_istoreF [(0, .ref o0), (1, .int (-1)), (2, .int 0)] rfl (subl_c rfl (subl_c rfl (subl_c rfl (subl_n)))) ?_
  refine s_const rfl ?_
  refine s_istoreF [(0, .ref o0), (1, .int (-1)), (2, .int 0), (3, .int 0)] rfl (subl_c rfl (subl_c rfl (subl_c rfl (subl_c rfl (subl_n))))) ?_
  let lvL4 : Int32 × Int32 × Int32 → List (Nat × Value) := fun s15 => [(0, .ref o0), (1, .int (s15.1)), (2, .int (s15.2.1)), (3, .int (s15.2.2))]
  refine s_loop lvL4 (subl_c rfl (subl_c rfl (subl_c rfl (subl_c rfl (subl_n))))) hT (fun s15 w5 hT5 => ?_)
  obtain ⟨v1_1, v2_2, v3_3⟩ := s15
  show sp _ (PP _ _ _ (6, [(0, .ref o0), (1, .int v1_1), (2, .int v2_2), (3, .int v3_3)], [], w5))
  refine s_iload rfl rfl ?_
  refine s_const rfl ?_
  refine sp_ite (fun h6 => ?_) (fun h6 => ?_)
  · refine s_ic0 rfl (zc_ge0 h6) ?_
    refine s_aload rfl rfl ?_
    refine s_getD rfl hT5 ho0 (by decide) rfl (fun a7 ha7 => ?_)
    refine s_iload rfl rfl ?_
    refine s_callI [.ref a7, .int v3_3] [] rfl rfl (Nat.le_of_ble_eq_true rfl) (ev_153 (d := d) (by omega) hT5 ha7) (fun r9 w8 hT8 => ?_)
    refine s_callI [.int r9] [] rfl rfl (Nat.le_of_ble_eq_true rfl) (ev_114 (d := d) (by omega) hT8 ) (fun r11 w10 hT10 => ?_)
    refine s_istoreF [(0, .ref o0), (1, .int v1_1), (2, .int v2_2), (3, .int v3_3), (4, .int r11)] rfl (subl_c rfl (subl_c rfl (subl_c rfl (subl_c rfl (subl_c rfl (subl_n)))))) ?_
    refine s_iload rfl rfl ?_
    refine s_iload rfl rfl ?_
    refine sp_ite (fun h12 => ?_) (fun h12 => ?_)
    · refine s_ic0 rfl (zc_le0 h12) ?_
      refine s_iload rfl rfl ?_
      refine s_istoreF [(0, .ref o0), (2, .int r11), (3, .int v3_3)] rfl (subl_c rfl (subl_c rfl (subl_c rfl (subl_n)))) ?_
      refine s_iload rfl rfl ?_
      refine s_istoreF [(0, .ref o0), (1, .int v3_3), (2, .int r11), (3, .int v3_3)] rfl (subl_c rfl (subl_c rfl (subl_c rfl (subl_c rfl (subl_n))))) ?_
      refine s_iincF (fun v3_13 => [(0, .ref o0), (1, .int v3_3), (2, .int r11), (3, .int v3_13)]) rfl rfl (fun _ => subl_c rfl (subl_c rfl (subl_c rfl (subl_c rfl (subl_n))))) (fun v3_13 => ?_)
      refine s_goto rfl ?_
      exact s_back (lvL := lvL4) (s' := (v3_3, r11, v3_13)) (subl_c rfl (subl_c rfl (subl_c rfl (subl_c rfl (subl_n))))) hT10 (fun _ _ h => h)
    · refine s_ic1 rfl (zc_le1 h12) ?_
      refine s_iincF (fun v3_14 => [(0, .ref o0), (1, .int v1_1), (2, .int v2_2), (3, .int v3_14)]) rfl rfl (fun _ => subl_c rfl (subl_c rfl (subl_c rfl (subl_c rfl (subl_n))))) (fun v3_14 => ?_)
      refine s_goto rfl ?_
      exact s_back (lvL := lvL4) (s' := (v1_1, v2_2, v3_14)) (subl_c rfl (subl_c rfl (subl_c rfl (subl_c rfl (subl_n))))) hT10 (fun _ _ h => h)
  · refine s_ic1 rfl (zc_ge1 h6) ?_
    refine s_iload rfl rfl ?_
    exact s_retI rfl rfl hT5 (fun _ _ h => h)
/-- RugReader.ways(I)I -/
def sh_154 (o0 : Nat) (p1 : Int32) (w : Wd) : Option (Int32 × Wd) := der (wR w o0 2) (fun a1 => cl (sh_56 a1 p1 w) (fun r3 w2 => if r3 = true then (der (wR w2 o0 2) (fun a5 => cl (sh_153 a5 p1 w2) (fun r7 w6 => some (r7, w6)))) else (some ((-1), w2))))
set_option maxRecDepth 20000 in
set_option maxHeartbeats 4000000 in
theorem ev_154 {d : Nat} (hd : 6 ≤ d) {o0 : Nat} {p1 : Int32} {w : Wd} (hT : TY w) (ho0 : ist o0 9) : sp (sh_154 o0 p1 w) (fun r w' => TY w' ∧ Ev d 154 [.ref o0, .int p1] w (cvI r) w') := by
  obtain ⟨d, rfl⟩ : ∃ d', d = d' + 1 := ⟨d - 1, by omega⟩
  refine ev_of (M := M154) zin_154 rfl (by decide) rfl (Nat.le_of_ble_eq_true rfl) (Or.inr ⟨o0, _, rfl, ho0⟩) hT ?_
  show sp _ (PP (Ev d) M154 (KR cvI) (0, [(0, .ref o0), (1, .int p1)], [], w))
  unfold sh_154
  refine s_aload rfl rfl ?_
  refine s_getD rfl hT ho0 (by decide) rfl (fun a1 ha1 => ?_)
  refine s_iload rfl rfl ?_
  refine s_callZ [.ref a1, .int p1] [] rfl rfl (Nat.le_of_ble_eq_true rfl) (ev_56 (d := d) (by omega) hT ha1) (fun r3 w2 hT2 => ?_)
  refine sp_ite (fun h4 => ?_) (fun h4 => ?_)
  · refine s_if0 rfl (zb_eq0 h4) ?_
    refine s_aload rfl rfl ?_
    refine s_getD rfl hT2 ho0 (by decide) rfl (fun a5 ha5 => ?_)
    refine s_iload rfl rfl ?_
    refine s_callI [.ref a5, .int p1] [] rfl rfl (Nat.le_of_ble_eq_true rfl) (ev_153 (d := d) (by omega) hT2 ha5) (fun r7 w6 hT6 => ?_)
    refine s_goto rfl ?_
    exact s_retI rfl rfl hT6 (fun _ _ h => h)
  · refine s_if1 rfl (zb_eq1 h4) ?_
    refine s_const rfl ?_
    exact s_retI rfl rfl hT2 (fun _ _ h => h)
/-- RugReader.both(II)I -/
def sh_155 (o0 : Nat) (p1 : Int32) (p2 : Int32) (w : Wd) : Option (Int32 × Wd) := der (wR w o0 2) (fun a1 => cl (sh_67 a1 p1 w) (fun r3 w2 => if r3 = true then (der (wR w2 o0 2) (fun a5 => cl (sh_67 a5 p2 w2) (fun r7 w6 => if r7 = true then (lt ((1 <<< (p1 &&& 31)) ||| (1 <<< (p2 &&& 31)) : Int32) (fun v3_9 => itM (fun (s22 : Int32 × Int32) (w13 : Wd) => match s22 with | (v4_10, v5_11) => if v5_11 < 144 then (der (wR w13 o0 2) (fun a15 => cl (sh_153 a15 v5_11 w13) (fun r17 w16 => if r17 &&& v3_9 = v3_9 then (lt (v4_10 + 1 : Int32) (fun v4_19 => lt (v5_11 + 1 : Int32) (fun v5_20 => some (.inl (v4_19, v5_20), w16)))) else (lt (v5_11 + 1 : Int32) (fun v5_21 => some (.inl (v4_10, v5_21), w16)))))) else (some (.inr (v4_10), w13))) FU (0, 0) w6)) else (some ((-1), w6))))) else (some ((-1), w2))))
set_option maxRecDepth 20000 in
set_option maxHeartbeats 4000000 in
theorem ev_155 {d : Nat} (hd : 6 ≤ d) {o0 : Nat} {p1 : Int32} {p2 : Int32} {w : Wd} (hT : TY w) (ho0 : ist o0 9) : sp (sh_155 o0 p1 p2 w) (fun r w' => TY w' ∧ Ev d 155 [.ref o0, .int p1, .int p2] w (cvI r) w') := by
  obtain ⟨d, rfl⟩ : ∃ d', d = d' + 1 := ⟨d - 1, by omega⟩
  refine ev_of (M := M155) zin_155 rfl (by decide) rfl (Nat.le_of_ble_eq_true rfl) (Or.inr ⟨o0, _, rfl, ho0⟩) hT ?_
  show sp _ (PP (Ev d) M155 (KR cvI) (0, [(0, .ref o0), (1, .int p1), (2, .int p2)], [], w))
  unfold sh_155
  refine s_aload rfl rfl ?_
  refine s_getD rfl hT ho0 (by decide) rfl (fun a1 ha1 => ?_)
  refine s_iload rfl rfl ?_
  refine s_callZ [.ref a1, .int p1] [] rfl rfl (Nat.le_of_ble_eq_true rfl) (ev_67 (d := d) (by omega) hT ha1) (fun r3 w2 hT2 => ?_)
  refine sp_ite (fun h4 => ?_) (fun h4 => ?_)
  · refine s_if0 rfl (zb_eq0 h4) ?_
    refine s_aload rfl rfl ?_
    refine s_getD rfl hT2 ho0 (by decide) rfl (fun a5 ha5 => ?_)
    refine s_iload rfl rfl ?_
    refine s_callZ [.ref a5, .int p2] [] rfl rfl (Nat.le_of_ble_eq_true rfl) (ev_67 (d := d) (by omega) hT2 ha5) (fun r7 w6 hT6 => ?_)
    refine sp_ite (fun h8 => ?_) (fun h8 => ?_)
    · refine s_if1 rfl (zb_ne1 h8) ?_
      refine s_const rfl ?_
      refine s_iload rfl rfl ?_
      refine s_bin rfl rfl ?_
      refine s_const rfl ?_
      refine s_iload rfl rfl ?_
      refine s_bin rfl rfl ?_
      refine s_bin rfl rfl ?_
      refine s_nmI (fun v3_9 => ?_)
      refine s_istoreF [(0, .ref o0), (3, .int v3_9)] rfl (subl_c rfl (subl_c rfl (subl_n))) ?_
      refine s_const rfl ?_
      refine s_istoreF [(0, .ref o0), (3, .int v3_9), (4, .int 0)] rfl (subl_c rfl (subl_c rfl (subl_c rfl (subl_n)))) ?_
      refine s_const rfl ?_
      refine s_istoreF [(0, .ref o0), (3, .int v3_9), (4, .int 0), (5, .int 0)] rfl (subl_c rfl (subl_c rfl (subl_c rfl (subl_c rfl (subl_n))))) ?_
      let lvL12 : Int32 × Int32 → List (Nat × Value) := fun s22 => [(0, .ref o0), (3, .int v3_9), (4, .int (s22.1)), (5, .int (s22.2))]
      refine s_loop lvL12 (subl_c rfl (subl_c rfl (subl_c rfl (subl_c rfl (subl_n))))) hT6 (fun s22 w13 hT13 => ?_)
      obtain ⟨v4_10, v5_11⟩ := s22
      show sp _ (PP _ _ _ (38, [(0, .ref o0), (3, .int v3_9), (4, .int v4_10), (5, .int v5_11)], [], w13))
      refine s_iload rfl rfl ?_
      refine s_const rfl ?_
      refine sp_ite (fun h14 => ?_) (fun h14 => ?_)
      · refine s_ic0 rfl (zc_ge0 h14) ?_
        refine s_aload rfl rfl ?_
        refine s_getD rfl hT13 ho0 (by decide) rfl (fun a15 ha15 => ?_)
        refine s_iload rfl rfl ?_
        refine s_callI [.ref a15, .int v5_11] [] rfl rfl (Nat.le_of_ble_eq_true rfl) (ev_153 (d := d) (by omega) hT13 ha15) (fun r17 w16 hT16 => ?_)
        refine s_iload rfl rfl ?_
        refine s_bin rfl rfl ?_
        refine s_iload rfl rfl ?_
        refine sp_ite (fun h18 => ?_) (fun h18 => ?_)
        · refine s_ic0 rfl (zc_ne0 h18) ?_
          refine s_iincF (fun v4_19 => [(0, .ref o0), (3, .int v3_9), (4, .int v4_19), (5, .int v5_11)]) rfl rfl (fun _ => subl_c rfl (subl_c rfl (subl_c rfl (subl_c rfl (subl_n))))) (fun v4_19 => ?_)
          refine s_iincF (fun v5_20 => [(0, .ref o0), (3, .int v3_9), (4, .int v4_19), (5, .int v5_20)]) rfl rfl (fun _ => subl_c rfl (subl_c rfl (subl_c rfl (subl_c rfl (subl_n))))) (fun v5_20 => ?_)
          refine s_goto rfl ?_
          exact s_back (lvL := lvL12) (s' := (v4_19, v5_20)) (subl_c rfl (subl_c rfl (subl_c rfl (subl_c rfl (subl_n))))) hT16 (fun _ _ h => h)
        · refine s_ic1 rfl (zc_ne1 h18) ?_
          refine s_iincF (fun v5_21 => [(0, .ref o0), (3, .int v3_9), (4, .int v4_10), (5, .int v5_21)]) rfl rfl (fun _ => subl_c rfl (subl_c rfl (subl_c rfl (subl_c rfl (subl_n))))) (fun v5_21 => ?_)
          refine s_goto rfl ?_
          exact s_back (lvL := lvL12) (s' := (v4_10, v5_21)) (subl_c rfl (subl_c rfl (subl_c rfl (subl_c rfl (subl_n))))) hT16 (fun _ _ h => h)
      · refine s_ic1 rfl (zc_ge1 h14) ?_
        refine s_iload rfl rfl ?_
        exact s_retI rfl rfl hT13 (fun _ _ h => h)
    · refine s_if0 rfl (zb_ne0 h8) ?_
      refine s_const rfl ?_
      exact s_retI rfl rfl hT6 (fun _ _ h => h)
  · refine s_if1 rfl (zb_eq1 h4) ?_
    refine s_const rfl ?_
    exact s_retI rfl rfl hT2 (fun _ _ h => h)
/-- RugReader$Rug.walksOf(I)I -/
def sh_157 (o0 : Nat) (p1 : Int32) (w : Wd) : Option (Int32 × Wd) := cl (sh_75 p1 w) (fun r2 w1 => if r2 = true then (gd (ib p1 6) (some (wI w1 (o0 + 7) (ix p1), w1))) else (some (0, w1)))
set_option maxRecDepth 20000 in
set_option maxHeartbeats 4000000 in
theorem ev_157 {d : Nat} (hd : 2 ≤ d) {o0 : Nat} {p1 : Int32} {w : Wd} (hT : TY w) (ho0 : ist o0 5) : sp (sh_157 o0 p1 w) (fun r w' => TY w' ∧ Ev d 157 [.ref o0, .int p1] w (cvI r) w') := by
  obtain ⟨d, rfl⟩ : ∃ d', d = d' + 1 := ⟨d - 1, by omega⟩
  refine ev_of (M := M157) zin_157 rfl (by decide) rfl (Nat.le_of_ble_eq_true rfl) (Or.inr ⟨o0, _, rfl, ho0⟩) hT ?_
  show sp _ (PP (Ev d) M157 (KR cvI) (0, [(0, .ref o0), (1, .int p1)], [], w))
  unfold sh_157
  refine s_iload rfl rfl ?_
  refine s_callZ [.int p1] [] rfl rfl (Nat.le_of_ble_eq_true rfl) (ev_75 (d := d) (by omega) hT ) (fun r2 w1 hT1 => ?_)
  refine sp_ite (fun h3 => ?_) (fun h3 => ?_)
  · refine s_if0 rfl (zb_eq0 h3) ?_
    refine s_aload rfl rfl ?_
    refine s_getF rfl hT1 ho0 rfl ?_
    refine s_iload rfl rfl ?_
    refine s_iald rfl hT1 (of_5_7 ho0) ?_
    refine s_goto rfl ?_
    exact s_retI rfl rfl hT1 (fun _ _ h => h)
  · refine s_if1 rfl (zb_eq1 h3) ?_
    refine s_const rfl ?_
    exact s_retI rfl rfl hT1 (fun _ _ h => h)
/-- RugReader.rarest()I -/
def sh_156 (o0 : Nat) (w : Wd) : Option (Int32 × Wd) := itM (fun (s16 : Int32 × Int32) (w4 : Wd) => match s16 with | (v1_1, v2_2) => der (wR w4 o0 2) (fun a5 => if v2_2 < wI w4 a5 3 then (if v1_1 = (-1) then (lt (v2_2 + 1 : Int32) (fun v2_8 => some (.inl (v2_2, v2_8), w4))) else (cl (sh_157 (o0 + 35) v2_2 w4) (fun r10 w9 => cl (sh_157 (o0 + 35) v1_1 w9) (fun r12 w11 => if r10 < r12 then (lt (v2_2 + 1 : Int32) (fun v2_14 => some (.inl (v2_2, v2_14), w11))) else (lt (v2_2 + 1 : Int32) (fun v2_15 => some (.inl (v1_1, v2_15), w11))))))) else (some (.inr (v1_1), w4)))) FU ((-1), 0) w
set_option maxRecDepth 20000 in
set_option maxHeartbeats 4000000 in
theorem ev_156 {d : Nat} (hd : 3 ≤ d) {o0 : Nat} {w : Wd} (hT : TY w) (ho0 : ist o0 9) : sp (sh_156 o0 w) (fun r w' => TY w' ∧ Ev d 156 [.ref o0] w (cvI r) w') := by
  obtain ⟨d, rfl⟩ : ∃ d', d = d' + 1 := ⟨d - 1, by omega⟩
  refine ev_of (M := M156) zin_156 rfl (by decide) rfl (Nat.le_of_ble_eq_true rfl) (Or.inr ⟨o0, _, rfl, ho0⟩) hT ?_
  show sp _ (PP (Ev d) M156 (KR cvI) (0, [(0, .ref o0)], [], w))
  unfold sh_156
  refine s_const rfl ?_
  refine s_istoreF [(0, .ref o0), (1, .int (-1))] rfl (subl_c rfl (subl_c rfl (subl_n))) ?_
  refine s_const rfl ?_
  refine s_istoreF [(0, .ref o0), (1, .int (-1)), (2, .int 0)] rfl (subl_c rfl (subl_c rfl (subl_c rfl (subl_n)))) ?_
  let lvL3 : Int32 × Int32 → List (Nat × Value) := fun s16 => [(0, .ref o0), (1, .int (s16.1)), (2, .int (s16.2))]
  refine s_loop lvL3 (subl_c rfl (subl_c rfl (subl_c rfl (subl_n)))) hT (fun s16 w4 hT4 => ?_)
  obtain ⟨v1_1, v2_2⟩ := s16
  show sp _ (PP _ _ _ (4, [(0, .ref o0), (1, .int v1_1), (2, .int v2_2)], [], w4))
  refine s_iload rfl rfl ?_
  refine s_aload rfl rfl ?_
  refine s_getD rfl hT4 ho0 (by decide) rfl (fun a5 ha5 => ?_)
  refine s_getI rfl hT4 ha5 ?_
  refine sp_ite (fun h6 => ?_) (fun h6 => ?_)
  · refine s_ic0 rfl (zc_ge0 h6) ?_
    refine s_iload rfl rfl ?_
    refine s_const rfl ?_
    refine sp_ite (fun h7 => ?_) (fun h7 => ?_)
    · refine s_ic1 rfl (zc_eq1 h7) ?_
      refine s_iload rfl rfl ?_
      refine s_istoreF [(0, .ref o0), (1, .int v2_2), (2, .int v2_2)] rfl (subl_c rfl (subl_c rfl (subl_c rfl (subl_n)))) ?_
      refine s_iincF (fun v2_8 => [(0, .ref o0), (1, .int v2_2), (2, .int v2_8)]) rfl rfl (fun _ => subl_c rfl (subl_c rfl (subl_c rfl (subl_n)))) (fun v2_8 => ?_)
      refine s_goto rfl ?_
      exact s_back (lvL := lvL3) (s' := (v2_2, v2_8)) (subl_c rfl (subl_c rfl (subl_c rfl (subl_n)))) hT4 (fun _ _ h => h)
    · refine s_ic0 rfl (zc_eq0 h7) ?_
      refine s_aload rfl rfl ?_
      refine s_getF rfl hT4 ho0 rfl ?_
      refine s_iload rfl rfl ?_
      refine s_callI [.ref (o0 + 35), .int v2_2] [] rfl rfl (Nat.le_of_ble_eq_true rfl) (ev_157 (d := d) (by omega) hT4 (of_9_6 ho0)) (fun r10 w9 hT9 => ?_)
      refine s_aload rfl rfl ?_
      refine s_getF rfl hT9 ho0 rfl ?_
      refine s_iload rfl rfl ?_
      refine s_callI [.ref (o0 + 35), .int v1_1] [.int r10] rfl rfl (Nat.le_of_ble_eq_true rfl) (ev_157 (d := d) (by omega) hT9 (of_9_6 ho0)) (fun r12 w11 hT11 => ?_)
      refine sp_ite (fun h13 => ?_) (fun h13 => ?_)
      · refine s_ic0 rfl (zc_ge0 h13) ?_
        refine s_iload rfl rfl ?_
        refine s_istoreF [(0, .ref o0), (1, .int v2_2), (2, .int v2_2)] rfl (subl_c rfl (subl_c rfl (subl_c rfl (subl_n)))) ?_
        refine s_iincF (fun v2_14 => [(0, .ref o0), (1, .int v2_2), (2, .int v2_14)]) rfl rfl (fun _ => subl_c rfl (subl_c rfl (subl_c rfl (subl_n)))) (fun v2_14 => ?_)
        refine s_goto rfl ?_
        exact s_back (lvL := lvL3) (s' := (v2_2, v2_14)) (subl_c rfl (subl_c rfl (subl_c rfl (subl_n)))) hT11 (fun _ _ h => h)
      · refine s_ic1 rfl (zc_ge1 h13) ?_
        refine s_iincF (fun v2_15 => [(0, .ref o0), (1, .int v1_1), (2, .int v2_15)]) rfl rfl (fun _ => subl_c rfl (subl_c rfl (subl_c rfl (subl_n)))) (fun v2_15 => ?_)
        refine s_goto rfl ?_
        exact s_back (lvL := lvL3) (s' := (v1_1, v2_15)) (subl_c rfl (subl_c rfl (subl_c rfl (subl_n)))) hT11 (fun _ _ h => h)
  · refine s_ic1 rfl (zc_ge1 h6) ?_
    refine s_iload rfl rfl ?_
    exact s_retI rfl rfl hT4 (fun _ _ h => h)
