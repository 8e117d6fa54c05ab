/-! printed by program (wip/whole/gen/sh.py): the methods as programs over worlds, and that the small machine does what they say -/
/-- RugReaderModel.sign(I)Z -/
def sh_208 (o0 : Nat) (p1 : Int32) (w : Wd) : Option (Bool × Wd) := cl (sh_205 o0 p1 w) (fun r2 w1 => if r2 = true then (cl (sh_191 o0 w1) (fun _ w4 => some (true, w4))) else (cl (sh_197 o0 1 w1) (fun r7 w6 => some (r7, w6))))
set_option maxRecDepth 20000 in
set_option maxHeartbeats 4000000 in
theorem ev_208 {d : Nat} (hd : 3 ≤ d) {o0 : Nat} {p1 : Int32} {w : Wd} (hT : TY w) (ho0 : ist o0 10) : sp (sh_208 o0 p1 w) (fun r w' => TY w' ∧ Ev d 208 [.ref o0, .int p1] w (cvZ r) w') := by
  obtain ⟨d, rfl⟩ : ∃ d', d = d' + 1 := ⟨d - 1, by omega⟩
  refine ev_of (M := M208) zin_208 rfl (by decide) rfl (Nat.le_of_ble_eq_true rfl) (Or.inr ⟨o0, _, rfl, ho0⟩) hT ?_
  show sp _ (PP (Ev d) M208 (KR cvZ) (0, [(0, .ref o0), (1, .int p1)], [], w))
  unfold sh_208
  refine s_aload rfl rfl ?_
  refine s_iload rfl rfl ?_
  refine s_callZ [.ref o0, .int p1] [] rfl rfl (Nat.le_of_ble_eq_true rfl) (ev_205 (d := d) (by omega) hT ho0) (fun r2 w1 hT1 => ?_)
  refine sp_ite (fun h3 => ?_) (fun h3 => ?_)
  · refine s_if1 rfl (zb_ne1 h3) ?_
    refine s_aload rfl rfl ?_
    refine s_callV [.ref o0] [] rfl rfl (Nat.le_of_ble_eq_true rfl) (ev_191 (d := d) (by omega) hT1 ho0) (fun _ w4 hT4 => ?_)
    refine s_const rfl ?_
    exact s_retZ (z := true) rfl rfl hT4 (fun _ _ h => h)
  · refine s_if0 rfl (zb_ne0 h3) ?_
    refine s_aload rfl rfl ?_
    refine s_const rfl ?_
    refine s_callZ [.ref o0, .int 1] [] rfl rfl (Nat.le_of_ble_eq_true rfl) (ev_197 (d := d) (by omega) hT1 ho0) (fun r7 w6 hT6 => ?_)
    exact s_retZ (z := r7) rfl rfl hT6 (fun _ _ h => h)
/-- RugReaderModel.house()I -/
def sh_189 (o0 : Nat) (w : Wd) : Option (Int32 × Wd) := stI w o0 0 0 (fun w1 => cl (sh_190 o0 900 w1) (fun _ w2 => stI w2 o0 15 0 (fun w4 => stI w4 o0 19 0 (fun w5 => stI w5 o0 20 0 (fun w6 => stI w6 o0 21 0 (fun w7 => itM (fun (v1_8 : Int32) (w10 : Wd) => if v1_8 < 429 then (gd (ib v1_8 429) (stI w10 (o0 + 3) (ix v1_8) 0 (fun w12 => lt (v1_8 + 1 : Int32) (fun v1_13 => some (.inl v1_13, w12))))) else (gd (ib 6 429) (stI w10 (o0 + 3) (ix 6) 9 (fun w14 => cl (sh_191 o0 w14) (fun _ w15 => itM (fun (s45 : Unit) (w18 : Wd) => if wI w18 o0 11 = 0 then (itM (fun (v1_20 : Int32) (w22 : Wd) => if v1_20 < 10265 then (if v1_20 < 429 then (gd (ib v1_20 429) (gd (ib v1_20 10265) (stI w22 (o0 + 2) (ix v1_20) (wI w22 (o0 + 3) (ix v1_20)) (fun w25 => lt (v1_20 + 1 : Int32) (fun v1_26 => some (.inl v1_26, w25)))))) else (gd (ib v1_20 10265) (stI w22 (o0 + 2) (ix v1_20) 0 (fun w27 => lt (v1_20 + 1 : Int32) (fun v1_28 => some (.inl v1_28, w27)))))) else (itM (fun (v1_29 : Int32) (w31 : Wd) => if v1_29 < 12 then (gd (ib (12 + v1_29) 24) (gd (ib v1_29 24) (stL w31 (o0 + 5) (ix v1_29) (wL w31 (o0 + 5) (ix (12 + v1_29))) (fun w33 => lt (v1_29 + 1 : Int32) (fun v1_34 => some (.inl v1_34, w33)))))) else (stI w31 o0 23 0 (fun w35 => some (.inr (.inr (.inr (.inr (wI w35 o0 19)))), w35)))) FU 0 w22)) FU 0 w18) else (cl (sh_195 o0 w18) (fun r39 w38 => if r39 = true then (cl (sh_208 o0 59 w38) (fun r42 w41 => if r42 = true then (stI w41 o0 19 ((wI w41 o0 19) + 1) (fun w44 => some (.inl (), w44))) else (some (.inr (.inr ((-1) - (wI w41 o0 16))), w41)))) else (some (.inr (.inr ((-1) - (wI w38 o0 16))), w38))))) FU () w15))))) FU 0 w7))))))
set_option maxRecDepth 20000 in
set_option maxHeartbeats 4000000 in
theorem ev_189 {d : Nat} (hd : 7 ≤ d) {o0 : Nat} {w : Wd} (hT : TY w) (ho0 : ist o0 10) : sp (sh_189 o0 w) (fun r w' => TY w' ∧ Ev d 189 [.ref o0] w (cvI r) w') := by
  obtain ⟨d, rfl⟩ : ∃ d', d = d' + 1 := ⟨d - 1, by omega⟩
  refine ev_of (M := M189) zin_189 rfl (by decide) rfl (Nat.le_of_ble_eq_true rfl) (Or.inr ⟨o0, _, rfl, ho0⟩) hT ?_
  show sp _ (PP (Ev d) M189 (KR cvI) (0, [(0, .ref o0)], [], w))
  unfold sh_189
  refine s_aload rfl rfl ?_
  refine s_const rfl ?_
  refine s_putI rfl hT ho0 rfl (fun w1 hT1 => ?_)
  refine s_aload rfl rfl ?_
  refine s_const rfl ?_
  refine s_callV [.ref o0, .int 900] [] rfl rfl (Nat.le_of_ble_eq_true rfl) (ev_190 (d := d) (by omega) hT1 ho0) (fun _ w2 hT2 => ?_)
  refine s_aload rfl rfl ?_
  refine s_const rfl ?_
  refine s_putI rfl hT2 ho0 rfl (fun w4 hT4 => ?_)
  refine s_aload rfl rfl ?_
  refine s_const rfl ?_
  refine s_putI rfl hT4 ho0 rfl (fun w5 hT5 => ?_)
  refine s_aload rfl rfl ?_
  refine s_const rfl ?_
  refine s_putZ rfl hT5 ho0 rfl (Or.inl rfl) (fun w6 hT6 => ?_)
  refine s_aload rfl rfl ?_
  refine s_const rfl ?_
  refine s_putZ rfl hT6 ho0 rfl (Or.inl rfl) (fun w7 hT7 => ?_)
  refine s_const rfl ?_
  refine s_istoreF [(0, .ref o0), (1, .int 0)] rfl (subl_c rfl (subl_c rfl (subl_n))) ?_
  let lvL9 : Int32 → List (Nat × Value) := fun s46 => [(0, .ref o0), (1, .int s46)]
  refine s_loop lvL9 (subl_c rfl (subl_c rfl (subl_n))) hT7 (fun v1_8 w10 hT10 => ?_)
  show sp _ (PP _ _ _ (34, [(0, .ref o0), (1, .int v1_8)], [], w10))
  refine s_iload rfl rfl ?_
  refine s_const rfl ?_
  refine sp_ite (fun h11 => ?_) (fun h11 => ?_)
  · refine s_ic0 rfl (zc_ge0 h11) ?_
    refine s_aload rfl rfl ?_
    refine s_getF rfl hT10 ho0 rfl ?_
    refine s_iload rfl rfl ?_
    refine s_const rfl ?_
    refine s_iast rfl hT10 (of_10_7 ho0) (fun w12 hT12 => ?_)
    refine s_iincF (fun v1_13 => [(0, .ref o0), (1, .int v1_13)]) rfl rfl (fun _ => subl_c rfl (subl_c rfl (subl_n))) (fun v1_13 => ?_)
    refine s_goto rfl ?_
    exact s_back (lvL := lvL9) (s' := v1_13) (subl_c rfl (subl_c rfl (subl_n))) hT12 (fun _ _ h => h)
  · refine s_ic1 rfl (zc_ge1 h11) ?_
    refine s_aload rfl rfl ?_
    refine s_getF rfl hT10 ho0 rfl ?_
    refine s_const rfl ?_
    refine s_const rfl ?_
    refine s_iast rfl hT10 (of_10_7 ho0) (fun w14 hT14 => ?_)
    refine s_aload rfl rfl ?_
    refine s_callV [.ref o0] [] rfl rfl (Nat.le_of_ble_eq_true rfl) (ev_191 (d := d) (by omega) hT14 ho0) (fun _ w15 hT15 => ?_)
    let lvL17 : Unit → List (Nat × Value) := fun s45 => [(0, .ref o0)]
    refine s_loop lvL17 (subl_c rfl (subl_n)) hT15 (fun s45 w18 hT18 => ?_)
    show sp _ (PP _ _ _ (67, [(0, .ref o0)], [], w18))
    refine s_aload rfl rfl ?_
    refine s_getI rfl hT18 ho0 ?_
    refine sp_ite (fun h19 => ?_) (fun h19 => ?_)
    · refine s_if1 rfl (zc_eq1 h19) ?_
      refine s_const rfl ?_
      refine s_istoreF [(0, .ref o0), (1, .int 0)] rfl (subl_c rfl (subl_c rfl (subl_n))) ?_
      let lvL21 : Int32 → List (Nat × Value) := fun s37 => [(0, .ref o0), (1, .int s37)]
      refine s_loop lvL21 (subl_c rfl (subl_c rfl (subl_n))) hT18 (fun v1_20 w22 hT22 => ?_)
      show sp _ (PP _ _ _ (112, [(0, .ref o0), (1, .int v1_20)], [], w22))
      refine s_iload rfl rfl ?_
      refine s_const rfl ?_
      refine sp_ite (fun h23 => ?_) (fun h23 => ?_)
      · refine s_ic0 rfl (zc_ge0 h23) ?_
        refine s_aload rfl rfl ?_
        refine s_getF rfl hT22 ho0 rfl ?_
        refine s_iload rfl rfl ?_
        refine s_iload rfl rfl ?_
        refine s_const rfl ?_
        refine sp_ite (fun h24 => ?_) (fun h24 => ?_)
        · refine s_ic0 rfl (zc_ge0 h24) ?_
          refine s_aload rfl rfl ?_
          refine s_getF rfl hT22 ho0 rfl ?_
          refine s_iload rfl rfl ?_
          refine s_iald rfl hT22 (of_10_7 ho0) ?_
          refine s_goto rfl ?_
          refine s_iast rfl hT22 (of_10_6 ho0) (fun w25 hT25 => ?_)
          refine s_iincF (fun v1_26 => [(0, .ref o0), (1, .int v1_26)]) rfl rfl (fun _ => subl_c rfl (subl_c rfl (subl_n))) (fun v1_26 => ?_)
          refine s_goto rfl ?_
          exact s_back (lvL := lvL21) (s' := v1_26) (subl_c rfl (subl_c rfl (subl_n))) hT25 (fun _ _ h => h)
        · refine s_ic1 rfl (zc_ge1 h24) ?_
          refine s_const rfl ?_
          refine s_iast rfl hT22 (of_10_6 ho0) (fun w27 hT27 => ?_)
          refine s_iincF (fun v1_28 => [(0, .ref o0), (1, .int v1_28)]) rfl rfl (fun _ => subl_c rfl (subl_c rfl (subl_n))) (fun v1_28 => ?_)
          refine s_goto rfl ?_
          exact s_back (lvL := lvL21) (s' := v1_28) (subl_c rfl (subl_c rfl (subl_n))) hT27 (fun _ _ h => h)
      · refine s_ic1 rfl (zc_ge1 h23) ?_
        refine s_const rfl ?_
        refine s_istoreF [(0, .ref o0), (1, .int 0)] rfl (subl_c rfl (subl_c rfl (subl_n))) ?_
        let lvL30 : Int32 → List (Nat × Value) := fun s36 => [(0, .ref o0), (1, .int s36)]
        refine s_loop lvL30 (subl_c rfl (subl_c rfl (subl_n))) hT22 (fun v1_29 w31 hT31 => ?_)
        show sp _ (PP _ _ _ (150, [(0, .ref o0), (1, .int v1_29)], [], w31))
        refine s_iload rfl rfl ?_
        refine s_const rfl ?_
        refine sp_ite (fun h32 => ?_) (fun h32 => ?_)
        · refine s_ic0 rfl (zc_ge0 h32) ?_
          refine s_aload rfl rfl ?_
          refine s_getF rfl hT31 ho0 rfl ?_
          refine s_iload rfl rfl ?_
          refine s_aload rfl rfl ?_
          refine s_getF rfl hT31 ho0 rfl ?_
          refine s_const rfl ?_
          refine s_iload rfl rfl ?_
          refine s_bin rfl rfl ?_
          refine s_lald rfl hT31 (of_10_9 ho0) ?_
          refine s_last rfl hT31 (of_10_9 ho0) (fun w33 hT33 => ?_)
          refine s_iincF (fun v1_34 => [(0, .ref o0), (1, .int v1_34)]) rfl rfl (fun _ => subl_c rfl (subl_c rfl (subl_n))) (fun v1_34 => ?_)
          refine s_goto rfl ?_
          exact s_back (lvL := lvL30) (s' := v1_34) (subl_c rfl (subl_c rfl (subl_n))) hT33 (fun _ _ h => h)
        · refine s_ic1 rfl (zc_ge1 h32) ?_
          refine s_aload rfl rfl ?_
          refine s_const rfl ?_
          refine s_putI rfl hT31 ho0 rfl (fun w35 hT35 => ?_)
          refine s_aload rfl rfl ?_
          refine s_getI rfl hT35 ho0 ?_
          exact s_retI rfl rfl hT35 (fun _ _ h => h)
    · refine s_if0 rfl (zc_eq0 h19) ?_
      refine s_aload rfl rfl ?_
      refine s_callZ [.ref o0] [] rfl rfl (Nat.le_of_ble_eq_true rfl) (ev_195 (d := d) (by omega) hT18 ho0) (fun r39 w38 hT38 => ?_)
      refine sp_ite (fun h40 => ?_) (fun h40 => ?_)
      · refine s_if0 rfl (zb_eq0 h40) ?_
        refine s_aload rfl rfl ?_
        refine s_const rfl ?_
        refine s_callZ [.ref o0, .int 59] [] rfl rfl (Nat.le_of_ble_eq_true rfl) (ev_208 (d := d) (by omega) hT38 ho0) (fun r42 w41 hT41 => ?_)
        refine sp_ite (fun h43 => ?_) (fun h43 => ?_)
        · refine s_if1 rfl (zb_ne1 h43) ?_
          refine s_aload rfl rfl ?_
          refine s_dup rfl rfl ?_
          refine s_getI rfl hT41 ho0 ?_
          refine s_const rfl ?_
          refine s_bin rfl rfl ?_
          refine s_putI rfl hT41 ho0 rfl (fun w44 hT44 => ?_)
          refine s_goto rfl ?_
          exact s_back (lvL := lvL17) (s' := ()) (subl_c rfl (subl_n)) hT44 (fun _ _ h => h)
        · refine s_if0 rfl (zb_ne0 h43) ?_
          refine s_const rfl ?_
          refine s_aload rfl rfl ?_
          refine s_getI rfl hT41 ho0 ?_
          refine s_bin rfl rfl ?_
          exact s_retI rfl rfl hT41 (fun _ _ h => h)
      · refine s_if1 rfl (zb_eq1 h40) ?_
        refine s_const rfl ?_
        refine s_aload rfl rfl ?_
        refine s_getI rfl hT38 ho0 ?_
        refine s_bin rfl rfl ?_
        exact s_retI rfl rfl hT38 (fun _ _ h => h)
/-- RugReaderModel.fault()I -/
def sh_209 (o0 : Nat) (w : Wd) : Option (Int32 × Wd) := stI w o0 0 0 (fun w1 => some (wI w1 o0 15, w1))
set_option maxRecDepth 20000 in
set_option maxHeartbeats 4000000 in
theorem ev_209 {d : Nat} (hd : 1 ≤ d) {o0 : Nat} {w : Wd} (hT : TY w) (ho0 : ist o0 10) : sp (sh_209 o0 w) (fun r w' => TY w' ∧ Ev d 209 [.ref o0] w (cvI r) w') := by
  obtain ⟨d, rfl⟩ : ∃ d', d = d' + 1 := ⟨d - 1, by omega⟩
  refine ev_of (M := M209) zin_209 rfl (by decide) rfl (Nat.le_of_ble_eq_true rfl) (Or.inr ⟨o0, _, rfl, ho0⟩) hT ?_
  show sp _ (PP (Ev d) M209 (KR cvI) (0, [(0, .ref o0)], [], w))
  unfold sh_209
  refine s_aload rfl rfl ?_
  refine s_const rfl ?_
  refine s_putI rfl hT ho0 rfl (fun w1 hT1 => ?_)
  refine s_aload rfl rfl ?_
  refine s_getI rfl hT1 ho0 ?_
  exact s_retI rfl rfl hT1 (fun _ _ h => h)
/-- RugReaderModel.isPerson(I)Z -/
def sh_211 (o0 : Nat) (p1 : Int32) (w : Wd) : Option (Bool × Wd) := gd (ib 2 10265) (cl (sh_199 p1 0 ((wI w (o0 + 2) (ix 2)) - 1) w) (fun r2 w1 => some (r2, w1)))
set_option maxRecDepth 20000 in
set_option maxHeartbeats 4000000 in
theorem ev_211 {d : Nat} (hd : 2 ≤ d) {o0 : Nat} {p1 : Int32} {w : Wd} (hT : TY w) (ho0 : ist o0 10) : sp (sh_211 o0 p1 w) (fun r w' => TY w' ∧ Ev d 211 [.ref o0, .int p1] w (cvZ r) w') := by
  obtain ⟨d, rfl⟩ : ∃ d', d = d' + 1 := ⟨d - 1, by omega⟩
  refine ev_of (M := M211) zin_211 rfl (by decide) rfl (Nat.le_of_ble_eq_true rfl) (Or.inr ⟨o0, _, rfl, ho0⟩) hT ?_
  show sp _ (PP (Ev d) M211 (KR cvZ) (0, [(0, .ref o0), (1, .int p1)], [], w))
  unfold sh_211
  refine s_iload rfl rfl ?_
  refine s_const rfl ?_
  refine s_aload rfl rfl ?_
  refine s_getF rfl hT ho0 rfl ?_
  refine s_const rfl ?_
  refine s_iald rfl hT (of_10_6 ho0) ?_
  refine s_const rfl ?_
  refine s_bin rfl rfl ?_
  refine s_callZ [.int p1, .int 0, .int ((wI w (o0 + 2) (ix 2)) - 1)] [] rfl rfl (Nat.le_of_ble_eq_true rfl) (ev_199 (d := d) (by omega) hT ) (fun r2 w1 hT1 => ?_)
  exact s_retZ (z := r2) rfl rfl hT1 (fun _ _ h => h)
/-- RugReaderModel.throwsIf(Z)Z -/
def sh_212 (o0 : Nat) (p1 : Bool) (w : Wd) : Option (Bool × Wd) := lt (if p1 = true then true else false : Bool) (fun z1 => stI w o0 0 (bi z1) (fun w2 => some (p1, w2)))
set_option maxRecDepth 20000 in
set_option maxHeartbeats 4000000 in
theorem ev_212 {d : Nat} (hd : 1 ≤ d) {o0 : Nat} {p1 : Bool} {w : Wd} (hT : TY w) (ho0 : ist o0 10) : sp (sh_212 o0 p1 w) (fun r w' => TY w' ∧ Ev d 212 [.ref o0, .int (bi p1)] w (cvZ r) w') := by
  obtain ⟨d, rfl⟩ : ∃ d', d = d' + 1 := ⟨d - 1, by omega⟩
  refine ev_of (M := M212) zin_212 rfl (by decide) rfl (Nat.le_of_ble_eq_true rfl) (Or.inr ⟨o0, _, rfl, ho0⟩) hT ?_
  show sp _ (PP (Ev d) M212 (KR cvZ) (0, [(0, .ref o0), (1, .int (bi p1))], [], w))
  unfold sh_212
  refine s_aload rfl rfl ?_
  refine s_iload rfl rfl ?_
  refine sp_lt (fun z1 hz1 => ?_)
  refine s_dia (10, [(0, .ref o0), (1, .int (bi p1))], [.int (bi z1), .ref o0], w) ?_ (fun hk3 => ?_)
  · refine s_putI rfl hT ho0 rfl (fun w2 hT2 => ?_)
    refine s_iload rfl rfl ?_
    exact s_retZ (z := p1) rfl rfl hT2 (fun _ _ h => h)
  · by_cases h4 : p1 = true
    · refine s_if0 rfl (zb_eq0 h4) ?_
      refine s_const rfl ?_
      refine s_goto rfl ?_
      refine s_cong ?_ hk3
      (rw [hz1, if_pos h4]; rfl)
    · refine s_if1 rfl (zb_eq1 h4) ?_
      refine s_const rfl ?_
      refine s_cong ?_ hk3
      (rw [hz1, if_neg h4]; rfl)
/-- RugReaderModel.lies(III)I -/
def sh_214 (o0 : Nat) (p1 : Int32) (p2 : Int32) (p3 : Int32) (w : Wd) : Option (Int32 × Wd) := gd (ib ((2308 + (((6 * p1) + p2) * 9)) + p3) 10265) (some (wI w (o0 + 2) (ix ((2308 + (((6 * p1) + p2) * 9)) + p3)), w))
set_option maxRecDepth 20000 in
set_option maxHeartbeats 4000000 in
theorem ev_214 {d : Nat} (hd : 1 ≤ d) {o0 : Nat} {p1 : Int32} {p2 : Int32} {p3 : Int32} {w : Wd} (hT : TY w) (ho0 : ist o0 10) : sp (sh_214 o0 p1 p2 p3 w) (fun r w' => TY w' ∧ Ev d 214 [.ref o0, .int p1, .int p2, .int p3] w (cvI r) w') := by
  obtain ⟨d, rfl⟩ : ∃ d', d = d' + 1 := ⟨d - 1, by omega⟩
  refine ev_of (M := M214) zin_214 rfl (by decide) rfl (Nat.le_of_ble_eq_true rfl) (Or.inr ⟨o0, _, rfl, ho0⟩) hT ?_
  show sp _ (PP (Ev d) M214 (KR cvI) (0, [(0, .ref o0), (1, .int p1), (2, .int p2), (3, .int p3)], [], w))
  unfold sh_214
  refine s_aload rfl rfl ?_
  refine s_getF rfl hT ho0 rfl ?_
  refine s_const rfl ?_
  refine s_const rfl ?_
  refine s_iload rfl rfl ?_
  refine s_bin rfl rfl ?_
  refine s_iload rfl rfl ?_
  refine s_bin rfl rfl ?_
  refine s_const rfl ?_
  refine s_bin rfl rfl ?_
  refine s_bin rfl rfl ?_
  refine s_iload rfl rfl ?_
  refine s_bin rfl rfl ?_
  refine s_iald rfl hT (of_10_6 ho0) ?_
  exact s_retI rfl rfl hT (fun _ _ h => h)
/-- RugReaderModel.liesOf(II)I -/
def sh_213 (o0 : Nat) (p1 : Int32) (p2 : Int32) (w : Wd) : Option (Int32 × Wd) := itM (fun (s10 : Int32 × Int32) (w4 : Wd) => match s10 with | (v3_1, v4_2) => if v4_2 < 9 then (cl (sh_214 o0 p1 p2 v4_2 w4) (fun r7 w6 => lt (v3_1 + r7 : Int32) (fun v3_8 => lt (v4_2 + 1 : Int32) (fun v4_9 => some (.inl (v3_8, v4_9), w6))))) else (some (.inr (v3_1), w4))) FU (0, 0) w
set_option maxRecDepth 20000 in
set_option maxHeartbeats 4000000 in
theorem ev_213 {d : Nat} (hd : 2 ≤ d) {o0 : Nat} {p1 : Int32} {p2 : Int32} {w : Wd} (hT : TY w) (ho0 : ist o0 10) : sp (sh_213 o0 p1 p2 w) (fun r w' => TY w' ∧ Ev d 213 [.ref o0, .int p1, .int p2] w (cvI r) w') := by
  obtain ⟨d, rfl⟩ : ∃ d', d = d' + 1 := ⟨d - 1, by omega⟩
  refine ev_of (M := M213) zin_213 rfl (by decide) rfl (Nat.le_of_ble_eq_true rfl) (Or.inr ⟨o0, _, rfl, ho0⟩) hT ?_
  show sp _ (PP (Ev d) M213 (KR cvI) (0, [(0, .ref o0), (1, .int p1), (2, .int p2)], [], w))
  unfold sh_213
  refine s_const rfl ?_
  refine s_istoreF [(0, .ref o0), (1, .int p1), (2, .int p2), (3, .int 0)] rfl (subl_c rfl (subl_c rfl (subl_c rfl (subl_c rfl (subl_n))))) ?_
  refine s_const rfl ?_
  refine s_istoreF [(0, .ref o0), (1, .int p1), (2, .int p2), (3, .int 0), (4, .int 0)] rfl (subl_c rfl (subl_c rfl (subl_c rfl (subl_c rfl (subl_c rfl (subl_n)))))) ?_
  let lvL3 : Int32 × Int32 → List (Nat × Value) := fun s10 => [(0, .ref o0), (1, .int p1), (2, .int p2), (3, .int (s10.1)), (4, .int (s10.2))]
  refine s_loop lvL3 (subl_c rfl (subl_c rfl (subl_c rfl (subl_c rfl (subl_c rfl (subl_n)))))) hT (fun s10 w4 hT4 => ?_)
  obtain ⟨v3_1, v4_2⟩ := s10
  show sp _ (PP _ _ _ (5, [(0, .ref o0), (1, .int p1), (2, .int p2), (3, .int v3_1), (4, .int v4_2)], [], w4))
  refine s_iload rfl rfl ?_
  refine s_const rfl ?_
  refine sp_ite (fun h5 => ?_) (fun h5 => ?_)
  · refine s_ic0 rfl (zc_ge0 h5) ?_
    refine s_iload rfl rfl ?_
    refine s_aload rfl rfl ?_
    refine s_iload rfl rfl ?_
    refine s_iload rfl rfl ?_
    refine s_iload rfl rfl ?_
    refine s_callI [.ref o0, .int p1, .int p2, .int v4_2] [.int v3_1] rfl rfl (Nat.le_of_ble_eq_true rfl) (ev_214 (d := d) (by omega) hT4 ho0) (fun r7 w6 hT6 => ?_)
    refine s_bin rfl rfl ?_
    refine s_nmI (fun v3_8 => ?_)
    refine s_istoreF [(0, .ref o0), (1, .int p1), (2, .int p2), (3, .int v3_8), (4, .int v4_2)] rfl (subl_c rfl (subl_c rfl (subl_c rfl (subl_c rfl (subl_c rfl (subl_n)))))) ?_
    refine s_iincF (fun v4_9 => [(0, .ref o0), (1, .int p1), (2, .int p2), (3, .int v3_8), (4, .int v4_9)]) rfl rfl (fun _ => subl_c rfl (subl_c rfl (subl_c rfl (subl_c rfl (subl_c rfl (subl_n)))))) (fun v4_9 => ?_)
    refine s_goto rfl ?_
    exact s_back (lvL := lvL3) (s' := (v3_8, v4_9)) (subl_c rfl (subl_c rfl (subl_c rfl (subl_c rfl (subl_c rfl (subl_n)))))) hT6 (fun _ _ h => h)
  · refine s_ic1 rfl (zc_ge1 h5) ?_
    refine s_iload rfl rfl ?_
    exact s_retI rfl rfl hT4 (fun _ _ h => h)
/-- RugReaderModel.person(II)I -/
def sh_210 (o0 : Nat) (p1 : Int32) (p2 : Int32) (w : Wd) : Option (Int32 × Wd) := cl (sh_211 o0 p1 w) (fun r2 w1 => jn (fun (t4 : Bool) (w5 : Wd) => cl (sh_212 o0 t4 w5) (fun r7 w6 => if r7 = true then (some (0, w6)) else (itM (fun (s32 : Int32 × Int32 × Int32) (w13 : Wd) => match s32 with | (v3_9, v4_10, v5_11) => if v5_11 < 144 then (cl (sh_213 o0 v5_11 p1 w13) (fun r16 w15 => lt (v3_9 + r16 : Int32) (fun v3_17 => lt (if 0 < r16 then true else false : Bool) (fun z18 => lt (v4_10 + (bi z18) : Int32) (fun v4_19 => lt (v5_11 + 1 : Int32) (fun v5_20 => some (.inl (v3_17, v4_19, v5_20), w15))))))) else (swt p2 (fun i23 => if i23 = 0 then (gd (ib (7 + p1) 10265) (some (.inr (wI w13 (o0 + 2) (ix (7 + p1))), w13))) else (if i23 = 1 then (gd (ib (13 + p1) 10265) (some (.inr (wI w13 (o0 + 2) (ix (13 + p1))), w13))) else (if i23 = 2 then (gd (ib (19 + p1) 10265) (some (.inr (wI w13 (o0 + 2) (ix (19 + p1))), w13))) else (if i23 = 3 then (some (.inr (v3_9), w13)) else (some (.inr (v4_10), w13)))))) (gd (ib (430 + p1) 10265) (some (.inr (wI w13 (o0 + 2) (ix (430 + p1))), w13))) 5)) FU (0, 0, 0) w6))) (fun j3 => jn (fun (s39 : Unit) (w34 : Wd) => j3 true w34) (fun j33 => if r2 = true then (cl (sh_199 p2 0 5 w1) (fun r37 w36 => if r37 = true then (j3 false w36) else (j33 () w36))) else (j33 () w1))))
set_option maxRecDepth 20000 in
set_option maxHeartbeats 4000000 in
theorem ev_210 {d : Nat} (hd : 3 ≤ d) {o0 : Nat} {p1 : Int32} {p2 : Int32} {w : Wd} (hT : TY w) (ho0 : ist o0 10) : sp (sh_210 o0 p1 p2 w) (fun r w' => TY w' ∧ Ev d 210 [.ref o0, .int p1, .int p2] w (cvI r) w') := by
  obtain ⟨d, rfl⟩ : ∃ d', d = d' + 1 := ⟨d - 1, by omega⟩
  refine ev_of (M := M210) zin_210 rfl (by decide) rfl (Nat.le_of_ble_eq_true rfl) (Or.inr ⟨o0, _, rfl, ho0⟩) hT ?_
  show sp _ (PP (Ev d) M210 (KR cvI) (0, [(0, .ref o0), (1, .int p1), (2, .int p2)], [], w))
  unfold sh_210
  refine s_aload rfl rfl ?_
  refine s_aload rfl rfl ?_
  refine s_iload rfl rfl ?_
  refine s_callZ [.ref o0, .int p1] [.ref o0] rfl rfl (Nat.le_of_ble_eq_true rfl) (ev_211 (d := d) (by omega) hT ho0) (fun r2 w1 hT1 => ?_)
  refine s_jnP (fun (s40 : Bool) w => (23, [(0, .ref o0), (1, .int p1), (2, .int p2)], [.int (bi s40), .ref o0], w)) (fun t4 w5 hT5 => ?_) (fun j3 hj3 => ?_)
  · show sp _ (PP _ _ _ (23, [(0, .ref o0), (1, .int p1), (2, .int p2)], [.int (bi t4), .ref o0], w5))
    refine s_callZ [.ref o0, .int (bi t4)] [] rfl rfl (Nat.le_of_ble_eq_true rfl) (ev_212 (d := d) (by omega) hT5 ho0) (fun r7 w6 hT6 => ?_)
    refine sp_ite (fun h8 => ?_) (fun h8 => ?_)
    · refine s_if0 rfl (zb_eq0 h8) ?_
      refine s_const rfl ?_
      exact s_retI rfl rfl hT6 (fun _ _ h => h)
    · refine s_if1 rfl (zb_eq1 h8) ?_
      refine s_const rfl ?_
      refine s_istoreF [(0, .ref o0), (1, .int p1), (2, .int p2), (3, .int 0)] rfl (subl_c rfl (subl_c rfl (subl_c rfl (subl_c rfl (subl_n))))) ?_
      refine s_const rfl ?_
      refine s_istoreF [(0, .ref o0), (1, .int p1), (2, .int p2), (3, .int 0), (4, .int 0)] rfl (subl_c rfl (subl_c rfl (subl_c rfl (subl_c rfl (subl_c rfl (subl_n)))))) ?_
      refine s_const rfl ?_
      refine s_istoreF [(0, .ref o0), (1, .int p1), (2, .int p2), (3, .int 0), (4, .int 0), (5, .int 0)] rfl (subl_c rfl (subl_c rfl (subl_c rfl (subl_c rfl (subl_c rfl (subl_c rfl (subl_n))))))) ?_
      let lvL12 : Int32 × Int32 × Int32 → List (Nat × Value) := fun s32 => [(0, .ref o0), (1, .int p1), (2, .int p2), (3, .int (s32.1)), (4, .int (s32.2.1)), (5, .int (s32.2.2))]
      refine s_loop lvL12 (subl_c rfl (subl_c rfl (subl_c rfl (subl_c rfl (subl_c rfl (subl_c rfl (subl_n))))))) hT6 (fun s32 w13 hT13 => ?_)
      obtain ⟨v3_9, v4_10, v5_11⟩ := s32
      show sp _ (PP _ _ _ (39, [(0, .ref o0), (1, .int p1), (2, .int p2), (3, .int v3_9), (4, .int v4_10), (5, .int v5_11)], [], w13))
      refine s_iload rfl rfl ?_
      refine s_const rfl ?_
      refine sp_ite (fun h14 => ?_) (fun h14 => ?_)
      · refine s_ic0 rfl (zc_ge0 h14) ?_
        refine s_aload rfl rfl ?_
        refine s_iload rfl rfl ?_
        refine s_iload rfl rfl ?_
        refine s_callI [.ref o0, .int v5_11, .int p1] [] rfl rfl (Nat.le_of_ble_eq_true rfl) (ev_213 (d := d) (by omega) hT13 ho0) (fun r16 w15 hT15 => ?_)
        refine s_istoreF [(0, .ref o0), (1, .int p1), (2, .int p2), (3, .int v3_9), (4, .int v4_10), (5, .int v5_11), (6, .int r16)] rfl (subl_c rfl (subl_c rfl (subl_c rfl (subl_c rfl (subl_c rfl (subl_c rfl (subl_c rfl (subl_n)))))))) ?_
        refine s_iload rfl rfl ?_
        refine s_iload rfl rfl ?_
        refine s_bin rfl rfl ?_
        refine s_nmI (fun v3_17 => ?_)
        refine s_istoreF [(0, .ref o0), (1, .int p1), (2, .int p2), (3, .int v3_17), (4, .int v4_10), (5, .int v5_11), (6, .int r16)] rfl (subl_c rfl (subl_c rfl (subl_c rfl (subl_c rfl (subl_c rfl (subl_c rfl (subl_c rfl (subl_n)))))))) ?_
        refine s_iload rfl rfl ?_
        refine s_iload rfl rfl ?_
        refine sp_lt (fun z18 hz18 => ?_)
        refine s_dia (73, [(0, .ref o0), (1, .int p1), (2, .int p2), (3, .int v3_17), (4, .int v4_10), (5, .int v5_11), (6, .int r16)], [.int (bi z18), .int v4_10], w15) ?_ (fun hk21 => ?_)
        · refine s_bin rfl rfl ?_
          refine s_nmI (fun v4_19 => ?_)
          refine s_istoreF [(0, .ref o0), (1, .int p1), (2, .int p2), (3, .int v3_17), (4, .int v4_19), (5, .int v5_11)] rfl (subl_c rfl (subl_c rfl (subl_c rfl (subl_c rfl (subl_c rfl (subl_c rfl (subl_n))))))) ?_
          refine s_iincF (fun v5_20 => [(0, .ref o0), (1, .int p1), (2, .int p2), (3, .int v3_17), (4, .int v4_19), (5, .int v5_20)]) rfl rfl (fun _ => subl_c rfl (subl_c rfl (subl_c rfl (subl_c rfl (subl_c rfl (subl_c rfl (subl_n))))))) (fun v5_20 => ?_)
          refine s_goto rfl ?_
          exact s_back (lvL := lvL12) (s' := (v3_17, v4_19, v5_20)) (subl_c rfl (subl_c rfl (subl_c rfl (subl_c rfl (subl_c rfl (subl_c rfl (subl_n))))))) hT15 (fun _ _ h => h)
        · by_cases h22 : 0 < r16
          · refine s_if0 rfl (zc_le0 h22) ?_
            refine s_const rfl ?_
            refine s_goto rfl ?_
            refine s_cong ?_ hk21
            (rw [hz18, if_pos h22]; rfl)
          · refine s_if1 rfl (zc_le1 h22) ?_
            refine s_const rfl ?_
            refine s_cong ?_ hk21
            (rw [hz18, if_neg h22]; rfl)
      · refine s_ic1 rfl (zc_ge1 h14) ?_
        refine s_iload rfl rfl ?_
        refine s_swt (fun i23 hi23 h24 h25 => ?_) (fun h26 => ?_)
        · refine sp_ite (fun e27 => ?_) (fun e27 => ?_)
          · refine s_sw rfl (zsw_in h24 (h25.trans e27) rfl (by decide) rfl) ?_
            refine s_aload rfl rfl ?_
            refine s_getF rfl hT13 ho0 rfl ?_
            refine s_const rfl ?_
            refine s_iload rfl rfl ?_
            refine s_bin rfl rfl ?_
            refine s_iald rfl hT13 (of_10_6 ho0) ?_
            exact s_retI rfl rfl hT13 (fun _ _ h => h)
          · skip
            refine sp_ite (fun e28 => ?_) (fun e28 => ?_)
            · refine s_sw rfl (zsw_in h24 (h25.trans e28) rfl (by decide) rfl) ?_
              refine s_aload rfl rfl ?_
              refine s_getF rfl hT13 ho0 rfl ?_
              refine s_const rfl ?_
              refine s_iload rfl rfl ?_
              refine s_bin rfl rfl ?_
              refine s_iald rfl hT13 (of_10_6 ho0) ?_
              exact s_retI rfl rfl hT13 (fun _ _ h => h)
            · skip
              refine sp_ite (fun e29 => ?_) (fun e29 => ?_)
              · refine s_sw rfl (zsw_in h24 (h25.trans e29) rfl (by decide) rfl) ?_
                refine s_aload rfl rfl ?_
                refine s_getF rfl hT13 ho0 rfl ?_
                refine s_const rfl ?_
                refine s_iload rfl rfl ?_
                refine s_bin rfl rfl ?_
                refine s_iald rfl hT13 (of_10_6 ho0) ?_
                exact s_retI rfl rfl hT13 (fun _ _ h => h)
              · skip
                refine sp_ite (fun e30 => ?_) (fun e30 => ?_)
                · refine s_sw rfl (zsw_in h24 (h25.trans e30) rfl (by decide) rfl) ?_
                  refine s_iload rfl rfl ?_
                  exact s_retI rfl rfl hT13 (fun _ _ h => h)
                · skip
                  have e31 : i23 = 4 := by omega
                  refine s_sw rfl (zsw_in h24 (h25.trans e31) rfl (by decide) rfl) ?_
                  refine s_iload rfl rfl ?_
                  exact s_retI rfl rfl hT13 (fun _ _ h => h)
        · refine s_sw rfl (zsw_out h26 rfl rfl) ?_
          refine s_aload rfl rfl ?_
          refine s_getF rfl hT13 ho0 rfl ?_
          refine s_const rfl ?_
          refine s_iload rfl rfl ?_
          refine s_bin rfl rfl ?_
          refine s_iald rfl hT13 (of_10_6 ho0) ?_
          exact s_retI rfl rfl hT13 (fun _ _ h => h)
  · refine s_jnP (fun (s39 : Unit) w => (18, [(0, .ref o0), (1, .int p1), (2, .int p2)], [.ref o0], w)) (fun s39 w34 hT34 => ?_) (fun j33 hj33 => ?_)
    · show sp _ (PP _ _ _ (18, [(0, .ref o0), (1, .int p1), (2, .int p2)], [.ref o0], w34))
      refine s_const rfl ?_
      refine s_goto rfl ?_
      exact s_fgt _ (subl_c rfl (subl_c rfl (subl_c rfl (subl_n)))) (hj3 true w34 hT34)
    · refine sp_ite (fun h35 => ?_) (fun h35 => ?_)
      · refine s_if0 rfl (zb_eq0 h35) ?_
        refine s_iload rfl rfl ?_
        refine s_const rfl ?_
        refine s_const rfl ?_
        refine s_callZ [.int p2, .int 0, .int 5] [.ref o0] rfl rfl (Nat.le_of_ble_eq_true rfl) (ev_199 (d := d) (by omega) hT1 ) (fun r37 w36 hT36 => ?_)
        refine sp_ite (fun h38 => ?_) (fun h38 => ?_)
        · refine s_if1 rfl (zb_ne1 h38) ?_
          refine s_const rfl ?_
          exact s_fgt _ (subl_c rfl (subl_c rfl (subl_c rfl (subl_n)))) (hj3 false w36 hT36)
        · refine s_if0 rfl (zb_ne0 h38) ?_
          exact s_fgt _ (subl_c rfl (subl_c rfl (subl_c rfl (subl_n)))) (hj33 () w36 hT36)
      · refine s_if1 rfl (zb_eq1 h35) ?_
        exact s_fgt _ (subl_c rfl (subl_c rfl (subl_c rfl (subl_n)))) (hj33 () w1 hT1)
/-- RugReaderModel.isTuft(I)Z -/
def sh_216 (o0 : Nat) (p1 : Int32) (w : Wd) : Option (Bool × Wd) := if 0 ≤ p1 then (gd (ib 0 10265) (if zrem p1 12 < wI w (o0 + 2) (ix 0) then (gd (ib 1 10265) (if p1 / 12 < wI w (o0 + 2) (ix 1) then (some (true, w)) else (some (false, w)))) else (some (false, w)))) else (some (false, w))
set_option maxRecDepth 20000 in
set_option maxHeartbeats 4000000 in
theorem ev_216 {d : Nat} (hd : 1 ≤ d) {o0 : Nat} {p1 : Int32} {w : Wd} (hT : TY w) (ho0 : ist o0 10) : sp (sh_216 o0 p1 w) (fun r w' => TY w' ∧ Ev d 216 [.ref o0, .int p1] w (cvZ r) w') := by
  obtain ⟨d, rfl⟩ : ∃ d', d = d' + 1 := ⟨d - 1, by omega⟩
  refine ev_of (M := M216) zin_216 rfl (by decide) rfl (Nat.le_of_ble_eq_true rfl) (Or.inr ⟨o0, _, rfl, ho0⟩) hT ?_
  show sp _ (PP (Ev d) M216 (KR cvZ) (0, [(0, .ref o0), (1, .int p1)], [], w))
  unfold sh_216
  refine s_iload rfl rfl ?_
  refine sp_ite (fun h1 => ?_) (fun h1 => ?_)
  · refine s_if0 rfl (zc_lt0 h1) ?_
    refine s_iload rfl rfl ?_
    refine s_const rfl ?_
    refine s_rem rfl (by decide) ?_
    refine s_aload rfl rfl ?_
    refine s_getF rfl hT ho0 rfl ?_
    refine s_const rfl ?_
    refine s_iald rfl hT (of_10_6 ho0) ?_
    refine sp_ite (fun h2 => ?_) (fun h2 => ?_)
    · refine s_ic0 rfl (zc_ge0 h2) ?_
      refine s_iload rfl rfl ?_
      refine s_const rfl ?_
      refine s_div rfl (by decide) ?_
      refine s_aload rfl rfl ?_
      refine s_getF rfl hT ho0 rfl ?_
      refine s_const rfl ?_
      refine s_iald rfl hT (of_10_6 ho0) ?_
      refine sp_ite (fun h3 => ?_) (fun h3 => ?_)
      · refine s_ic0 rfl (zc_ge0 h3) ?_
        refine s_const rfl ?_
        refine s_goto rfl ?_
        exact s_retZ (z := true) rfl rfl hT (fun _ _ h => h)
      · refine s_ic1 rfl (zc_ge1 h3) ?_
        refine s_const rfl ?_
        exact s_retZ (z := false) rfl rfl hT (fun _ _ h => h)
    · refine s_ic1 rfl (zc_ge1 h2) ?_
      refine s_const rfl ?_
      exact s_retZ (z := false) rfl rfl hT (fun _ _ h => h)
  · refine s_if1 rfl (zc_lt1 h1) ?_
    refine s_const rfl ?_
    exact s_retZ (z := false) rfl rfl hT (fun _ _ h => h)
/-- RugReaderModel.depth(I)I -/
def sh_217 (o0 : Nat) (p1 : Int32) (w : Wd) : Option (Int32 × Wd) := itM (fun (s17 : Int32 × Int32) (w4 : Wd) => match s17 with | (v2_1, v3_2) => gd (ib 2 10265) (if v3_2 < wI w4 (o0 + 2) (ix 2) then (itM (fun (s16 : Int32 × Int32) (w9 : Wd) => match s16 with | (v2_6, v4_7) => gd (ib 6 10265) (if v4_7 < wI w9 (o0 + 2) (ix 6) then (cl (sh_214 o0 p1 v3_2 v4_7 w9) (fun r12 w11 => gd (ib (7 + v3_2) 10265) (gd (ib 6 10265) (lt (v2_6 + ((r12 * (wI w11 (o0 + 2) (ix (7 + v3_2)))) * ((wI w11 (o0 + 2) (ix 6)) - v4_7)) : Int32) (fun v2_13 => lt (v4_7 + 1 : Int32) (fun v4_14 => some (.inl (v2_13, v4_14), w11))))))) else (lt (v3_2 + 1 : Int32) (fun v3_15 => some (.inr (.inl (v2_6, v3_15)), w9))))) FU (v2_1, 0) w4) else (some (.inr (v2_1), w4)))) FU (0, 0) w
set_option maxRecDepth 20000 in
set_option maxHeartbeats 4000000 in
theorem ev_217 {d : Nat} (hd : 2 ≤ d) {o0 : Nat} {p1 : Int32} {w : Wd} (hT : TY w) (ho0 : ist o0 10) : sp (sh_217 o0 p1 w) (fun r w' => TY w' ∧ Ev d 217 [.ref o0, .int p1] w (cvI r) w') := by
  obtain ⟨d, rfl⟩ : ∃ d', d = d' + 1 := ⟨d - 1, by omega⟩
  refine ev_of (M := M217) zin_217 rfl (by decide) rfl (Nat.le_of_ble_eq_true rfl) (Or.inr ⟨o0, _, rfl, ho0⟩) hT ?_
  show sp _ (PP (Ev d) M217 (KR cvI) (0, [(0, .ref o0), (1, .int p1)], [], w))
  unfold sh_217
  refine s_const rfl ?_
  refine s_istoreF [(0, .ref o0), (1, .int p1), (2, .int 0)] rfl (subl_c rfl (subl_c rfl (subl_c rfl (subl_n)))) ?_
  refine s_const rfl ?_
  refine s_istoreF [(0, .ref o0), (1, .int p1), (2, .int 0), (3, .int 0)] rfl (subl_c rfl (subl_c rfl (subl_c rfl (subl_c rfl (subl_n))))) ?_
  let lvL3 : Int32 × Int32 → List (Nat × Value) := fun s17 => [(0, .ref o0), (1, .int p1), (2, .int (s17.1)), (3, .int (s17.2))]
  refine s_loop lvL3 (subl_c rfl (subl_c rfl (subl_c rfl (subl_c rfl (subl_n))))) hT (fun s17 w4 hT4 => ?_)
  obtain ⟨v2_1, v3_2⟩ := s17
  show sp _ (PP _ _ _ (4, [(0, .ref o0), (1, .int p1), (2, .int v2_1), (3, .int v3_2)], [], w4))
  refine s_iload rfl rfl ?_
  refine s_aload rfl rfl ?_
  refine s_getF rfl hT4 ho0 rfl ?_
  refine s_const rfl ?_
  refine s_iald rfl hT4 (of_10_6 ho0) ?_
  refine sp_ite (fun h5 => ?_) (fun h5 => ?_)
  · refine s_ic0 rfl (zc_ge0 h5) ?_
    refine s_const rfl ?_
    refine s_istoreF [(0, .ref o0), (1, .int p1), (2, .int v2_1), (3, .int v3_2), (4, .int 0)] rfl (subl_c rfl (subl_c rfl (subl_c rfl (subl_c rfl (subl_c rfl (subl_n)))))) ?_
    let lvL8 : Int32 × Int32 → List (Nat × Value) := fun s16 => [(0, .ref o0), (1, .int p1), (2, .int (s16.1)), (3, .int v3_2), (4, .int (s16.2))]
    refine s_loop lvL8 (subl_c rfl (subl_c rfl (subl_c rfl (subl_c rfl (subl_c rfl (subl_n)))))) hT4 (fun s16 w9 hT9 => ?_)
    obtain ⟨v2_6, v4_7⟩ := s16
    show sp _ (PP _ _ _ (17, [(0, .ref o0), (1, .int p1), (2, .int v2_6), (3, .int v3_2), (4, .int v4_7)], [], w9))
    refine s_iload rfl rfl ?_
    refine s_aload rfl rfl ?_
    refine s_getF rfl hT9 ho0 rfl ?_
    refine s_const rfl ?_
    refine s_iald rfl hT9 (of_10_6 ho0) ?_
    refine sp_ite (fun h10 => ?_) (fun h10 => ?_)
    · refine s_ic0 rfl (zc_ge0 h10) ?_
      refine s_iload rfl rfl ?_
      refine s_aload rfl rfl ?_
      refine s_iload rfl rfl ?_
      refine s_iload rfl rfl ?_
      refine s_iload rfl rfl ?_
      refine s_callI [.ref o0, .int p1, .int v3_2, .int v4_7] [.int v2_6] rfl rfl (Nat.le_of_ble_eq_true rfl) (ev_214 (d := d) (by omega) hT9 ho0) (fun r12 w11 hT11 => ?_)
      refine s_aload rfl rfl ?_
      refine s_getF rfl hT11 ho0 rfl ?_
      refine s_const rfl ?_
      refine s_iload rfl rfl ?_
      refine s_bin rfl rfl ?_
      refine s_iald rfl hT11 (of_10_6 ho0) ?_
      refine s_bin rfl rfl ?_
      refine s_aload rfl rfl ?_
      refine s_getF rfl hT11 ho0 rfl ?_
      refine s_const rfl ?_
      refine s_iald rfl hT11 (of_10_6 ho0) ?_
      refine s_iload rfl rfl ?_
      refine s_bin rfl rfl ?_
      refine s_bin rfl rfl ?_
      refine s_bin rfl rfl ?_
      refine s_nmI (fun v2_13 => ?_)
      refine s_istoreF [(0, .ref o0), (1, .int p1), (2, .int v2_13), (3, .int v3_2), (4, .int v4_7)] rfl (subl_c rfl (subl_c rfl (subl_c rfl (subl_c rfl (subl_c rfl (subl_n)))))) ?_
      refine s_iincF (fun v4_14 => [(0, .ref o0), (1, .int p1), (2, .int v2_13), (3, .int v3_2), (4, .int v4_14)]) rfl rfl (fun _ => subl_c rfl (subl_c rfl (subl_c rfl (subl_c rfl (subl_c rfl (subl_n)))))) (fun v4_14 => ?_)
      refine s_goto rfl ?_
      exact s_back (lvL := lvL8) (s' := (v2_13, v4_14)) (subl_c rfl (subl_c rfl (subl_c rfl (subl_c rfl (subl_c rfl (subl_n)))))) hT11 (fun _ _ h => h)
    · refine s_ic1 rfl (zc_ge1 h10) ?_
      refine s_iincF (fun v3_15 => [(0, .ref o0), (1, .int p1), (2, .int v2_6), (3, .int v3_15)]) rfl rfl (fun _ => subl_c rfl (subl_c rfl (subl_c rfl (subl_c rfl (subl_n))))) (fun v3_15 => ?_)
      refine s_goto rfl ?_
      exact s_back (lvL := lvL3) (s' := (v2_6, v3_15)) (subl_c rfl (subl_c rfl (subl_c rfl (subl_c rfl (subl_n))))) hT9 (fun _ _ h => h)
  · refine s_ic1 rfl (zc_ge1 h5) ?_
    refine s_iload rfl rfl ?_
    exact s_retI rfl rfl hT4 (fun _ _ h => h)
/-- RugReaderModel.treads(I)I -/
def sh_218 (o0 : Nat) (p1 : Int32) (w : Wd) : Option (Int32 × Wd) := itM (fun (s10 : Int32 × Int32) (w4 : Wd) => match s10 with | (v2_1, v3_2) => gd (ib 2 10265) (if v3_2 < wI w4 (o0 + 2) (ix 2) then (cl (sh_213 o0 p1 v3_2 w4) (fun r7 w6 => lt (v2_1 + r7 : Int32) (fun v2_8 => lt (v3_2 + 1 : Int32) (fun v3_9 => some (.inl (v2_8, v3_9), w6))))) else (some (.inr (v2_1), w4)))) FU (0, 0) w
set_option maxRecDepth 20000 in
set_option maxHeartbeats 4000000 in
theorem ev_218 {d : Nat} (hd : 3 ≤ d) {o0 : Nat} {p1 : Int32} {w : Wd} (hT : TY w) (ho0 : ist o0 10) : sp (sh_218 o0 p1 w) (fun r w' => TY w' ∧ Ev d 218 [.ref o0, .int p1] w (cvI r) w') := by
  obtain ⟨d, rfl⟩ : ∃ d', d = d' + 1 := ⟨d - 1, by omega⟩
  refine ev_of (M := M218) zin_218 rfl (by decide) rfl (Nat.le_of_ble_eq_true rfl) (Or.inr ⟨o0, _, rfl, ho0⟩) hT ?_
  show sp _ (PP (Ev d) M218 (KR cvI) (0, [(0, .ref o0), (1, .int p1)], [], w))
  unfold sh_218
  refine s_const rfl ?_
  refine s_istoreF [(0, .ref o0), (1, .int p1), (2, .int 0)] rfl (subl_c rfl (subl_c rfl (subl_c rfl (subl_n)))) ?_
  refine s_const rfl ?_
  refine s_istoreF [(0, .ref o0), (1, .int p1), (2, .int 0), (3, .int 0)] rfl (subl_c rfl (subl_c rfl (subl_c rfl (subl_c rfl (subl_n))))) ?_
  let lvL3 : Int32 × Int32 → List (Nat × Value) := fun s10 => [(0, .ref o0), (1, .int p1), (2, .int (s10.1)), (3, .int (s10.2))]
  refine s_loop lvL3 (subl_c rfl (subl_c rfl (subl_c rfl (subl_c rfl (subl_n))))) hT (fun s10 w4 hT4 => ?_)
  obtain ⟨v2_1, v3_2⟩ := s10
  show sp _ (PP _ _ _ (4, [(0, .ref o0), (1, .int p1), (2, .int v2_1), (3, .int v3_2)], [], w4))
  refine s_iload rfl rfl ?_
  refine s_aload rfl rfl ?_
  refine s_getF rfl hT4 ho0 rfl ?_
  refine s_const rfl ?_
  refine s_iald rfl hT4 (of_10_6 ho0) ?_
  refine sp_ite (fun h5 => ?_) (fun h5 => ?_)
  · refine s_ic0 rfl (zc_ge0 h5) ?_
    refine s_iload rfl rfl ?_
    refine s_aload rfl rfl ?_
    refine s_iload rfl rfl ?_
    refine s_iload rfl rfl ?_
    refine s_callI [.ref o0, .int p1, .int v3_2] [.int v2_1] rfl rfl (Nat.le_of_ble_eq_true rfl) (ev_213 (d := d) (by omega) hT4 ho0) (fun r7 w6 hT6 => ?_)
    refine s_bin rfl rfl ?_
    refine s_nmI (fun v2_8 => ?_)
    refine s_istoreF [(0, .ref o0), (1, .int p1), (2, .int v2_8), (3, .int v3_2)] rfl (subl_c rfl (subl_c rfl (subl_c rfl (subl_c rfl (subl_n))))) ?_
    refine s_iincF (fun v3_9 => [(0, .ref o0), (1, .int p1), (2, .int v2_8), (3, .int v3_9)]) rfl rfl (fun _ => subl_c rfl (subl_c rfl (subl_c rfl (subl_c rfl (subl_n))))) (fun v3_9 => ?_)
    refine s_goto rfl ?_
    exact s_back (lvL := lvL3) (s' := (v2_8, v3_9)) (subl_c rfl (subl_c rfl (subl_c rfl (subl_c rfl (subl_n))))) hT6 (fun _ _ h => h)
  · refine s_ic1 rfl (zc_ge1 h5) ?_
    refine s_iload rfl rfl ?_
    exact s_retI rfl rfl hT4 (fun _ _ h => h)
/-- RugReaderModel.isDoor(I)Z -/
def sh_219 (o0 : Nat) (p1 : Int32) (w : Wd) : Option (Bool × Wd) := itM (fun (v2_1 : Int32) (w3 : Wd) => gd (ib 5 10265) (if v2_1 < wI w3 (o0 + 2) (ix 5) then (gd (ib (169 + v2_1) 10265) (if wI w3 (o0 + 2) (ix (169 + v2_1)) = p1 then (some (.inr (true), w3)) else (lt (v2_1 + 1 : Int32) (fun v2_6 => some (.inl v2_6, w3))))) else (some (.inr (false), w3)))) FU 0 w
set_option maxRecDepth 20000 in
set_option maxHeartbeats 4000000 in
theorem ev_219 {d : Nat} (hd : 1 ≤ d) {o0 : Nat} {p1 : Int32} {w : Wd} (hT : TY w) (ho0 : ist o0 10) : sp (sh_219 o0 p1 w) (fun r w' => TY w' ∧ Ev d 219 [.ref o0, .int p1] w (cvZ r) w') := by
  obtain ⟨d, rfl⟩ : ∃ d', d = d' + 1 := ⟨d - 1, by omega⟩
  refine ev_of (M := M219) zin_219 rfl (by decide) rfl (Nat.le_of_ble_eq_true rfl) (Or.inr ⟨o0, _, rfl, ho0⟩) hT ?_
  show sp _ (PP (Ev d) M219 (KR cvZ) (0, [(0, .ref o0), (1, .int p1)], [], w))
  unfold sh_219
  refine s_const rfl ?_
  refine s_istoreF [(0, .ref o0), (1, .int p1), (2, .int 0)] rfl (subl_c rfl (subl_c rfl (subl_c rfl (subl_n)))) ?_
  let lvL2 : Int32 → List (Nat × Value) := fun s7 => [(0, .ref o0), (1, .int p1), (2, .int s7)]
  refine s_loop lvL2 (subl_c rfl (subl_c rfl (subl_c rfl (subl_n)))) hT (fun v2_1 w3 hT3 => ?_)
  show sp _ (PP _ _ _ (2, [(0, .ref o0), (1, .int p1), (2, .int v2_1)], [], w3))
  refine s_iload rfl rfl ?_
  refine s_aload rfl rfl ?_
  refine s_getF rfl hT3 ho0 rfl ?_
  refine s_const rfl ?_
  refine s_iald rfl hT3 (of_10_6 ho0) ?_
  refine sp_ite (fun h4 => ?_) (fun h4 => ?_)
  · refine s_ic0 rfl (zc_ge0 h4) ?_
    refine s_aload rfl rfl ?_
    refine s_getF rfl hT3 ho0 rfl ?_
    refine s_const rfl ?_
    refine s_iload rfl rfl ?_
    refine s_bin rfl rfl ?_
    refine s_iald rfl hT3 (of_10_6 ho0) ?_
    refine s_iload rfl rfl ?_
    refine sp_ite (fun h5 => ?_) (fun h5 => ?_)
    · refine s_ic0 rfl (zc_ne0 h5) ?_
      refine s_const rfl ?_
      exact s_retZ (z := true) rfl rfl hT3 (fun _ _ h => h)
    · refine s_ic1 rfl (zc_ne1 h5) ?_
      refine s_iincF (fun v2_6 => [(0, .ref o0), (1, .int p1), (2, .int v2_6)]) rfl rfl (fun _ => subl_c rfl (subl_c rfl (subl_c rfl (subl_n)))) (fun v2_6 => ?_)
      refine s_goto rfl ?_
      exact s_back (lvL := lvL2) (s' := v2_6) (subl_c rfl (subl_c rfl (subl_c rfl (subl_n)))) hT3 (fun _ _ h => h)
  · refine s_ic1 rfl (zc_ge1 h4) ?_
    refine s_const rfl ?_
    exact s_retZ (z := false) rfl rfl hT3 (fun _ _ h => h)
/-- RugReaderModel.tuft(II)I -/
def sh_215 (o0 : Nat) (p1 : Int32) (p2 : Int32) (w : Wd) : Option (Int32 × Wd) := cl (sh_216 o0 p1 w) (fun r2 w1 => jn (fun (t4 : Bool) (w5 : Wd) => cl (sh_212 o0 t4 w5) (fun r7 w6 => if r7 = true then (some (0, w6)) else (lt (436 + (4 * p1) : Int32) (fun v3_9 => gd (ib v3_9 10265) (lt (if 0 < wI w6 (o0 + 2) (ix v3_9) then true else false : Bool) (fun z10 => swt p2 (fun i11 => if i11 = 0 then (cl (sh_217 o0 p1 w6) (fun r20 w19 => some (r20, w19))) else (if i11 = 1 then (cl (sh_218 o0 p1 w6) (fun r22 w21 => some (r22, w21))) else (if i11 = 2 then (gd (ib v3_9 10265) (some ((wI w6 (o0 + 2) (ix v3_9)) - 1, w6))) else (if i11 = 3 then (if z10 = true then (gd (ib (v3_9 + 1) 10265) (some (wI w6 (o0 + 2) (ix (v3_9 + 1)), w6))) else (some ((-1), w6))) else (if i11 = 4 then (if z10 = true then (gd (ib (v3_9 + 2) 10265) (some (wI w6 (o0 + 2) (ix (v3_9 + 2)), w6))) else (some ((-1), w6))) else (if i11 = 5 then (if z10 = true then (gd (ib 429 10265) (gd (ib (v3_9 + 3) 10265) (some ((wI w6 (o0 + 2) (ix 429)) - (wI w6 (o0 + 2) (ix (v3_9 + 3))), w6)))) else (some ((-1), w6))) else (gd (ib (25 + p1) 10265) (some (wI w6 (o0 + 2) (ix (25 + p1)), w6))))))))) (cl (sh_219 o0 p1 w6) (fun r15 w14 => lt (if r15 = true then true else false : Bool) (fun z16 => some (bi z16, w14)))) 7)))))) (fun j3 => jn (fun (s42 : Unit) (w37 : Wd) => j3 true w37) (fun j36 => if r2 = true then (cl (sh_199 p2 0 7 w1) (fun r40 w39 => if r40 = true then (j3 false w39) else (j36 () w39))) else (j36 () w1))))
set_option maxRecDepth 20000 in
set_option maxHeartbeats 4000000 in
theorem ev_215 {d : Nat} (hd : 4 ≤ d) {o0 : Nat} {p1 : Int32} {p2 : Int32} {w : Wd} (hT : TY w) (ho0 : ist o0 10) : sp (sh_215 o0 p1 p2 w) (fun r w' => TY w' ∧ Ev d 215 [.ref o0, .int p1, .int p2] w (cvI r) w') := by
  obtain ⟨d, rfl⟩ : ∃ d', d = d' + 1 := ⟨d - 1, by omega⟩
  refine ev_of (M := M215) zin_215 rfl (by decide) rfl (Nat.le_of_ble_eq_true rfl) (Or.inr ⟨o0, _, rfl, ho0⟩) hT ?_
  show sp _ (PP (Ev d) M215 (KR cvI) (0, [(0, .ref o0), (1, .int p1), (2, .int p2)], [], w))
  unfold sh_215
  refine s_aload rfl rfl ?_
  refine s_aload rfl rfl ?_
  refine s_iload rfl rfl ?_
  refine s_callZ [.ref o0, .int p1] [.ref o0] rfl rfl (Nat.le_of_ble_eq_true rfl) (ev_216 (d := d) (by omega) hT ho0) (fun r2 w1 hT1 => ?_)
  refine s_jnP (fun (s43 : Bool) w => (24, [(0, .ref o0), (1, .int p1), (2, .int p2)], [.int (bi s43), .ref o0], w)) (fun t4 w5 hT5 => ?_) (fun j3 hj3 => ?_)
  · show sp _ (PP _ _ _ (24, [(0, .ref o0), (1, .int p1), (2, .int p2)], [.int (bi t4), .ref o0], w5))
    refine s_callZ [.ref o0, .int (bi t4)] [] rfl rfl (Nat.le_of_ble_eq_true rfl) (ev_212 (d := d) (by omega) hT5 ho0) (fun r7 w6 hT6 => ?_)
    refine sp_ite (fun h8 => ?_) (fun h8 => ?_)
    · refine s_if0 rfl (zb_eq0 h8) ?_
      refine s_const rfl ?_
      exact s_retI rfl rfl hT6 (fun _ _ h => h)
    · refine s_if1 rfl (zb_eq1 h8) ?_
      refine s_const rfl ?_
      refine s_const rfl ?_
      refine s_iload rfl rfl ?_
      refine s_bin rfl rfl ?_
      refine s_bin rfl rfl ?_
      refine s_nmI (fun v3_9 => ?_)
      refine s_istoreF [(0, .ref o0), (1, .int p1), (2, .int p2), (3, .int v3_9)] rfl (subl_c rfl (subl_c rfl (subl_c rfl (subl_c rfl (subl_n))))) ?_
      refine s_aload rfl rfl ?_
      refine s_getF rfl hT6 ho0 rfl ?_
      refine s_iload rfl rfl ?_
      refine s_iald rfl hT6 (of_10_6 ho0) ?_
      refine sp_lt (fun z10 hz10 => ?_)
      refine s_dia (54, [(0, .ref o0), (1, .int p1), (2, .int p2), (3, .int v3_9)], [.int (bi z10)], w6) ?_ (fun hk34 => ?_)
      · refine s_istoreF [(0, .ref o0), (1, .int p1), (2, .int p2), (3, .int v3_9), (4, .int (bi z10))] rfl (subl_c rfl (subl_c rfl (subl_c rfl (subl_c rfl (subl_c rfl (subl_n)))))) ?_
        refine s_iload rfl rfl ?_
        refine s_swt (fun i11 hi11 h12 h13 => ?_) (fun h26 => ?_)
        · refine sp_ite (fun e27 => ?_) (fun e27 => ?_)
          · refine s_sw rfl (zsw_in h12 (h13.trans e27) rfl (by decide) rfl) ?_
            refine s_aload rfl rfl ?_
            refine s_iload rfl rfl ?_
            refine s_callI [.ref o0, .int p1] [] rfl rfl (Nat.le_of_ble_eq_true rfl) (ev_217 (d := d) (by omega) hT6 ho0) (fun r20 w19 hT19 => ?_)
            exact s_retI rfl rfl hT19 (fun _ _ h => h)
          · skip
            refine sp_ite (fun e28 => ?_) (fun e28 => ?_)
            · refine s_sw rfl (zsw_in h12 (h13.trans e28) rfl (by decide) rfl) ?_
              refine s_aload rfl rfl ?_
              refine s_iload rfl rfl ?_
              refine s_callI [.ref o0, .int p1] [] rfl rfl (Nat.le_of_ble_eq_true rfl) (ev_218 (d := d) (by omega) hT6 ho0) (fun r22 w21 hT21 => ?_)
              exact s_retI rfl rfl hT21 (fun _ _ h => h)
            · skip
              refine sp_ite (fun e29 => ?_) (fun e29 => ?_)
              · refine s_sw rfl (zsw_in h12 (h13.trans e29) rfl (by decide) rfl) ?_
                refine s_aload rfl rfl ?_
                refine s_getF rfl hT6 ho0 rfl ?_
                refine s_iload rfl rfl ?_
                refine s_iald rfl hT6 (of_10_6 ho0) ?_
                refine s_const rfl ?_
                refine s_bin rfl rfl ?_
                exact s_retI rfl rfl hT6 (fun _ _ h => h)
              · skip
                refine sp_ite (fun e30 => ?_) (fun e30 => ?_)
                · refine s_sw rfl (zsw_in h12 (h13.trans e30) rfl (by decide) rfl) ?_
                  refine s_iload rfl rfl ?_
                  refine sp_ite (fun h23 => ?_) (fun h23 => ?_)
                  · refine s_if0 rfl (zb_eq0 h23) ?_
                    refine s_aload rfl rfl ?_
                    refine s_getF rfl hT6 ho0 rfl ?_
                    refine s_iload rfl rfl ?_
                    refine s_const rfl ?_
                    refine s_bin rfl rfl ?_
                    refine s_iald rfl hT6 (of_10_6 ho0) ?_
                    refine s_goto rfl ?_
                    exact s_retI rfl rfl hT6 (fun _ _ h => h)
                  · refine s_if1 rfl (zb_eq1 h23) ?_
                    refine s_const rfl ?_
                    exact s_retI rfl rfl hT6 (fun _ _ h => h)
                · skip
                  refine sp_ite (fun e31 => ?_) (fun e31 => ?_)
                  · refine s_sw rfl (zsw_in h12 (h13.trans e31) rfl (by decide) rfl) ?_
                    refine s_iload rfl rfl ?_
                    refine sp_ite (fun h24 => ?_) (fun h24 => ?_)
                    · refine s_if0 rfl (zb_eq0 h24) ?_
                      refine s_aload rfl rfl ?_
                      refine s_getF rfl hT6 ho0 rfl ?_
                      refine s_iload rfl rfl ?_
                      refine s_const rfl ?_
                      refine s_bin rfl rfl ?_
                      refine s_iald rfl hT6 (of_10_6 ho0) ?_
                      refine s_goto rfl ?_
                      exact s_retI rfl rfl hT6 (fun _ _ h => h)
                    · refine s_if1 rfl (zb_eq1 h24) ?_
                      refine s_const rfl ?_
                      exact s_retI rfl rfl hT6 (fun _ _ h => h)
                  · skip
                    refine sp_ite (fun e32 => ?_) (fun e32 => ?_)
                    · refine s_sw rfl (zsw_in h12 (h13.trans e32) rfl (by decide) rfl) ?_
                      refine s_iload rfl rfl ?_
                      refine sp_ite (fun h25 => ?_) (fun h25 => ?_)
                      · refine s_if0 rfl (zb_eq0 h25) ?_
                        refine s_aload rfl rfl ?_
                        refine s_getF rfl hT6 ho0 rfl ?_
                        refine s_const rfl ?_
                        refine s_iald rfl hT6 (of_10_6 ho0) ?_
                        refine s_aload rfl rfl ?_
                        refine s_getF rfl hT6 ho0 rfl ?_
                        refine s_iload rfl rfl ?_
                        refine s_const rfl ?_
                        refine s_bin rfl rfl ?_
                        refine s_iald rfl hT6 (of_10_6 ho0) ?_
                        refine s_bin rfl rfl ?_
                        refine s_goto rfl ?_
                        exact s_retI rfl rfl hT6 (fun _ _ h => h)
                      · refine s_if1 rfl (zb_eq1 h25) ?_
                        refine s_const rfl ?_
                        exact s_retI rfl rfl hT6 (fun _ _ h => h)
                    · skip
                      have e33 : i11 = 6 := by omega
                      refine s_sw rfl (zsw_in h12 (h13.trans e33) rfl (by decide) rfl) ?_
                      refine s_aload rfl rfl ?_
                      refine s_getF rfl hT6 ho0 rfl ?_
                      refine s_const rfl ?_
                      refine s_iload rfl rfl ?_
                      refine s_bin rfl rfl ?_
                      refine s_iald rfl hT6 (of_10_6 ho0) ?_
                      exact s_retI rfl rfl hT6 (fun _ _ h => h)
        · refine s_sw rfl (zsw_out h26 rfl rfl) ?_
          refine s_aload rfl rfl ?_
          refine s_iload rfl rfl ?_
          refine s_callZ [.ref o0, .int p1] [] rfl rfl (Nat.le_of_ble_eq_true rfl) (ev_219 (d := d) (by omega) hT6 ho0) (fun r15 w14 hT14 => ?_)
          refine sp_lt (fun z16 hz16 => ?_)
          refine s_dia (207, [(0, .ref o0), (1, .int p1), (2, .int p2), (3, .int v3_9), (4, .int (bi z10))], [.int (bi z16)], w14) ?_ (fun hk17 => ?_)
          · exact s_retI rfl rfl hT14 (fun _ _ h => h)
          · by_cases h18 : r15 = true
            · refine s_if0 rfl (zb_eq0 h18) ?_
              refine s_const rfl ?_
              refine s_goto rfl ?_
              refine s_cong ?_ hk17
              (rw [hz16, if_pos h18]; rfl)
            · refine s_if1 rfl (zb_eq1 h18) ?_
              refine s_const rfl ?_
              refine s_cong ?_ hk17
              (rw [hz16, if_neg h18]; rfl)
      · by_cases h35 : 0 < wI w6 (o0 + 2) (ix v3_9)
        · refine s_if0 rfl (zc_le0 h35) ?_
          refine s_const rfl ?_
          refine s_goto rfl ?_
          refine s_cong ?_ hk34
          (rw [hz10, if_pos h35]; rfl)
        · refine s_if1 rfl (zc_le1 h35) ?_
          refine s_const rfl ?_
          refine s_cong ?_ hk34
          (rw [hz10, if_neg h35]; rfl)
  · refine s_jnP (fun (s42 : Unit) w => (19, [(0, .ref o0), (1, .int p1), (2, .int p2)], [.ref o0], w)) (fun s42 w37 hT37 => ?_) (fun j36 hj36 => ?_)
    · show sp _ (PP _ _ _ (19, [(0, .ref o0), (1, .int p1), (2, .int p2)], [.ref o0], w37))
      refine s_const rfl ?_
      refine s_goto rfl ?_
      exact s_fgt _ (subl_c rfl (subl_c rfl (subl_c rfl (subl_n)))) (hj3 true w37 hT37)
    · refine sp_ite (fun h38 => ?_) (fun h38 => ?_)
      · refine s_if0 rfl (zb_eq0 h38) ?_
        refine s_iload rfl rfl ?_
        refine s_const rfl ?_
        refine s_const rfl ?_
        refine s_callZ [.int p2, .int 0, .int 7] [.ref o0] rfl rfl (Nat.le_of_ble_eq_true rfl) (ev_199 (d := d) (by omega) hT1 ) (fun r40 w39 hT39 => ?_)
        refine sp_ite (fun h41 => ?_) (fun h41 => ?_)
        · refine s_if1 rfl (zb_ne1 h41) ?_
          refine s_const rfl ?_
          exact s_fgt _ (subl_c rfl (subl_c rfl (subl_c rfl (subl_n)))) (hj3 false w39 hT39)
        · refine s_if0 rfl (zb_ne0 h41) ?_
          exact s_fgt _ (subl_c rfl (subl_c rfl (subl_c rfl (subl_n)))) (hj36 () w39 hT39)
      · refine s_if1 rfl (zb_eq1 h38) ?_
        exact s_fgt _ (subl_c rfl (subl_c rfl (subl_c rfl (subl_n)))) (hj36 () w1 hT1)
/-- RugReaderModel.isWay(I)Z -/
def sh_221 (o0 : Nat) (p1 : Int32) (w : Wd) : Option (Bool × Wd) := gd (ib 3 10265) (cl (sh_199 p1 0 ((wI w (o0 + 2) (ix 3)) - 1) w) (fun r2 w1 => some (r2, w1)))
set_option maxRecDepth 20000 in
set_option maxHeartbeats 4000000 in
theorem ev_221 {d : Nat} (hd : 2 ≤ d) {o0 : Nat} {p1 : Int32} {w : Wd} (hT : TY w) (ho0 : ist o0 10) : sp (sh_221 o0 p1 w) (fun r w' => TY w' ∧ Ev d 221 [.ref o0, .int p1] w (cvZ r) w') := by
  obtain ⟨d, rfl⟩ : ∃ d', d = d' + 1 := ⟨d - 1, by omega⟩
  refine ev_of (M := M221) zin_221 rfl (by decide) rfl (Nat.le_of_ble_eq_true rfl) (Or.inr ⟨o0, _, rfl, ho0⟩) hT ?_
  show sp _ (PP (Ev d) M221 (KR cvZ) (0, [(0, .ref o0), (1, .int p1)], [], w))
  unfold sh_221
  refine s_iload rfl rfl ?_
  refine s_const rfl ?_
  refine s_aload rfl rfl ?_
  refine s_getF rfl hT ho0 rfl ?_
  refine s_const rfl ?_
  refine s_iald rfl hT (of_10_6 ho0) ?_
  refine s_const rfl ?_
  refine s_bin rfl rfl ?_
  refine s_callZ [.int p1, .int 0, .int ((wI w (o0 + 2) (ix 3)) - 1)] [] rfl rfl (Nat.le_of_ble_eq_true rfl) (ev_199 (d := d) (by omega) hT ) (fun r2 w1 hT1 => ?_)
  exact s_retZ (z := r2) rfl rfl hT1 (fun _ _ h => h)
/-- RugReaderModel.way(II)I -/
def sh_220 (o0 : Nat) (p1 : Int32) (p2 : Int32) (w : Wd) : Option (Int32 × Wd) := stI w o0 0 0 (fun w1 => cl (sh_221 o0 p1 w1) (fun r3 w2 => if r3 = true then (gd (ib (177 + p1) 10265) (cl (sh_199 p2 0 ((wI w2 (o0 + 2) (ix (177 + p1))) - 1) w2) (fun r6 w5 => if r6 = true then (gd (ib ((183 + (41 * p1)) + p2) 10265) (some (wI w5 (o0 + 2) (ix ((183 + (41 * p1)) + p2)), w5))) else (some ((-1), w5))))) else (some ((-1), w2))))
set_option maxRecDepth 20000 in
set_option maxHeartbeats 4000000 in
theorem ev_220 {d : Nat} (hd : 3 ≤ d) {o0 : Nat} {p1 : Int32} {p2 : Int32} {w : Wd} (hT : TY w) (ho0 : ist o0 10) : sp (sh_220 o0 p1 p2 w) (fun r w' => TY w' ∧ Ev d 220 [.ref o0, .int p1, .int p2] w (cvI r) w') := by
  obtain ⟨d, rfl⟩ : ∃ d', d = d' + 1 := ⟨d - 1, by omega⟩
  refine ev_of (M := M220) zin_220 rfl (by decide) rfl (Nat.le_of_ble_eq_true rfl) (Or.inr ⟨o0, _, rfl, ho0⟩) hT ?_
  show sp _ (PP (Ev d) M220 (KR cvI) (0, [(0, .ref o0), (1, .int p1), (2, .int p2)], [], w))
  unfold sh_220
  refine s_aload rfl rfl ?_
  refine s_const rfl ?_
  refine s_putI rfl hT ho0 rfl (fun w1 hT1 => ?_)
  refine s_aload rfl rfl ?_
  refine s_iload rfl rfl ?_
  refine s_callZ [.ref o0, .int p1] [] rfl rfl (Nat.le_of_ble_eq_true rfl) (ev_221 (d := d) (by omega) hT1 ho0) (fun r3 w2 hT2 => ?_)
  refine sp_ite (fun h4 => ?_) (fun h4 => ?_)
  · refine s_if0 rfl (zb_eq0 h4) ?_
    refine s_iload rfl rfl ?_
    refine s_const rfl ?_
    refine s_aload rfl rfl ?_
    refine s_getF rfl hT2 ho0 rfl ?_
    refine s_const rfl ?_
    refine s_iload rfl rfl ?_
    refine s_bin rfl rfl ?_
    refine s_iald rfl hT2 (of_10_6 ho0) ?_
    refine s_const rfl ?_
    refine s_bin rfl rfl ?_
    refine s_callZ [.int p2, .int 0, .int ((wI w2 (o0 + 2) (ix (177 + p1))) - 1)] [] rfl rfl (Nat.le_of_ble_eq_true rfl) (ev_199 (d := d) (by omega) hT2 ) (fun r6 w5 hT5 => ?_)
    refine sp_ite (fun h7 => ?_) (fun h7 => ?_)
    · refine s_if0 rfl (zb_eq0 h7) ?_
      refine s_aload rfl rfl ?_
      refine s_getF rfl hT5 ho0 rfl ?_
      refine s_const rfl ?_
      refine s_const rfl ?_
      refine s_iload rfl rfl ?_
      refine s_bin rfl rfl ?_
      refine s_bin rfl rfl ?_
      refine s_iload rfl rfl ?_
      refine s_bin rfl rfl ?_
      refine s_iald rfl hT5 (of_10_6 ho0) ?_
      refine s_goto rfl ?_
      exact s_retI rfl rfl hT5 (fun _ _ h => h)
    · refine s_if1 rfl (zb_eq1 h7) ?_
      refine s_const rfl ?_
      exact s_retI rfl rfl hT5 (fun _ _ h => h)
  · refine s_if1 rfl (zb_eq1 h4) ?_
    refine s_const rfl ?_
    exact s_retI rfl rfl hT2 (fun _ _ h => h)
/-- RugReaderModel.undo()I -/
def sh_222 (o0 : Nat) (w : Wd) : Option (Int32 × Wd) := stI w o0 0 0 (fun w1 => if wI w1 o0 23 = 0 then (some ((-1), w1)) else (stI w1 o0 23 ((wI w1 o0 23) - 1) (fun w3 => itM (fun (v1_4 : Int32) (w6 : Wd) => if v1_4 < 9655 then (gd (ib ((9655 * (wI w6 o0 23)) + v1_4) 57930) (gd (ib (429 + v1_4) 10265) (stI w6 (o0 + 2) (ix (429 + v1_4)) (wI w6 (o0 + 7) (ix ((9655 * (wI w6 o0 23)) + v1_4))) (fun w8 => lt (v1_4 + 1 : Int32) (fun v1_9 => some (.inl v1_9, w8)))))) else (some (.inr (wI w6 o0 23), w6))) FU 0 w3)))
set_option maxRecDepth 20000 in
set_option maxHeartbeats 4000000 in
theorem ev_222 {d : Nat} (hd : 1 ≤ d) {o0 : Nat} {w : Wd} (hT : TY w) (ho0 : ist o0 10) : sp (sh_222 o0 w) (fun r w' => TY w' ∧ Ev d 222 [.ref o0] w (cvI r) w') := by
  obtain ⟨d, rfl⟩ : ∃ d', d = d' + 1 := ⟨d - 1, by omega⟩
  refine ev_of (M := M222) zin_222 rfl (by decide) rfl (Nat.le_of_ble_eq_true rfl) (Or.inr ⟨o0, _, rfl, ho0⟩) hT ?_
  show sp _ (PP (Ev d) M222 (KR cvI) (0, [(0, .ref o0)], [], w))
  unfold sh_222
  refine s_aload rfl rfl ?_
  refine s_const rfl ?_
  refine s_putI rfl hT ho0 rfl (fun w1 hT1 => ?_)
  refine s_aload rfl rfl ?_
  refine s_getI rfl hT1 ho0 ?_
  refine sp_ite (fun h2 => ?_) (fun h2 => ?_)
  · refine s_if0 rfl (zc_ne0 h2) ?_
    refine s_const rfl ?_
    exact s_retI rfl rfl hT1 (fun _ _ h => h)
  · refine s_if1 rfl (zc_ne1 h2) ?_
    refine s_aload rfl rfl ?_
    refine s_dup rfl rfl ?_
    refine s_getI rfl hT1 ho0 ?_
    refine s_const rfl ?_
    refine s_bin rfl rfl ?_
    refine s_putI rfl hT1 ho0 rfl (fun w3 hT3 => ?_)
    refine s_const rfl ?_
    refine s_istoreF [(0, .ref o0), (1, .int 0)] rfl (subl_c rfl (subl_c rfl (subl_n))) ?_
    let lvL5 : Int32 → List (Nat × Value) := fun s10 => [(0, .ref o0), (1, .int s10)]
    refine s_loop lvL5 (subl_c rfl (subl_c rfl (subl_n))) hT3 (fun v1_4 w6 hT6 => ?_)
    show sp _ (PP _ _ _ (26, [(0, .ref o0), (1, .int v1_4)], [], w6))
    refine s_iload rfl rfl ?_
    refine s_const rfl ?_
    refine sp_ite (fun h7 => ?_) (fun h7 => ?_)
    · refine s_ic0 rfl (zc_ge0 h7) ?_
      refine s_aload rfl rfl ?_
      refine s_getF rfl hT6 ho0 rfl ?_
      refine s_const rfl ?_
      refine s_iload rfl rfl ?_
      refine s_bin rfl rfl ?_
      refine s_aload rfl rfl ?_
      refine s_getF rfl hT6 ho0 rfl ?_
      refine s_const rfl ?_
      refine s_aload rfl rfl ?_
      refine s_getI rfl hT6 ho0 ?_
      refine s_bin rfl rfl ?_
      refine s_iload rfl rfl ?_
      refine s_bin rfl rfl ?_
      refine s_iald rfl hT6 (of_10_22 ho0) ?_
      refine s_iast rfl hT6 (of_10_6 ho0) (fun w8 hT8 => ?_)
      refine s_iincF (fun v1_9 => [(0, .ref o0), (1, .int v1_9)]) rfl rfl (fun _ => subl_c rfl (subl_c rfl (subl_n))) (fun v1_9 => ?_)
      refine s_goto rfl ?_
      exact s_back (lvL := lvL5) (s' := v1_9) (subl_c rfl (subl_c rfl (subl_n))) hT8 (fun _ _ h => h)
    · refine s_ic1 rfl (zc_ge1 h7) ?_
      refine s_aload rfl rfl ?_
      refine s_getI rfl hT6 ho0 ?_
      exact s_retI rfl rfl hT6 (fun _ _ h => h)
/-- RugReaderModel.keep()V -/
def sh_224 (o0 : Nat) (w : Wd) : Option (Unit × Wd) := jn (fun (s20 : Unit) (w2 : Wd) => itM (fun (v1_3 : Int32) (w5 : Wd) => if v1_3 < 9655 then (gd (ib (429 + v1_3) 10265) (gd (ib ((9655 * (wI w5 o0 23)) + v1_3) 57930) (stI w5 (o0 + 7) (ix ((9655 * (wI w5 o0 23)) + v1_3)) (wI w5 (o0 + 2) (ix (429 + v1_3))) (fun w7 => lt (v1_3 + 1 : Int32) (fun v1_8 => some (.inl v1_8, w7)))))) else (stI w5 o0 23 ((wI w5 o0 23) + 1) (fun w9 => some (.inr (()), w9)))) FU 0 w2) (fun j1 => if wI w o0 23 = 6 then (itM (fun (v1_12 : Int32) (w14 : Wd) => if v1_12 < 48275 then (gd (ib (v1_12 + 9655) 57930) (gd (ib v1_12 57930) (stI w14 (o0 + 7) (ix v1_12) (wI w14 (o0 + 7) (ix (v1_12 + 9655))) (fun w16 => lt (v1_12 + 1 : Int32) (fun v1_17 => some (.inl v1_17, w16)))))) else (stI w14 o0 23 5 (fun w18 => upr (j1 () w18)))) FU 0 w) else (j1 () w))
set_option maxRecDepth 20000 in
set_option maxHeartbeats 4000000 in
theorem ev_224 {d : Nat} (hd : 1 ≤ d) {o0 : Nat} {w : Wd} (hT : TY w) (ho0 : ist o0 10) : sp (sh_224 o0 w) (fun r w' => TY w' ∧ Ev d 224 [.ref o0] w (cvV r) w') := by
  obtain ⟨d, rfl⟩ : ∃ d', d = d' + 1 := ⟨d - 1, by omega⟩
  refine ev_of (M := M224) zin_224 rfl (by decide) rfl (Nat.le_of_ble_eq_true rfl) (Or.inr ⟨o0, _, rfl, ho0⟩) hT ?_
  show sp _ (PP (Ev d) M224 (KR cvV) (0, [(0, .ref o0)], [], w))
  unfold sh_224
  refine s_aload rfl rfl ?_
  refine s_getI rfl hT ho0 ?_
  refine s_const rfl ?_
  refine s_jnP (fun (s20 : Unit) w => (45, [(0, .ref o0)], [], w)) (fun s20 w2 hT2 => ?_) (fun j1 hj1 => ?_)
  · show sp _ (PP _ _ _ (45, [(0, .ref o0)], [], w2))
    refine s_const rfl ?_
    refine s_istoreF [(0, .ref o0), (1, .int 0)] rfl (subl_c rfl (subl_c rfl (subl_n))) ?_
    let lvL4 : Int32 → List (Nat × Value) := fun s10 => [(0, .ref o0), (1, .int s10)]
    refine s_loop lvL4 (subl_c rfl (subl_c rfl (subl_n))) hT2 (fun v1_3 w5 hT5 => ?_)
    show sp _ (PP _ _ _ (47, [(0, .ref o0), (1, .int v1_3)], [], w5))
    refine s_iload rfl rfl ?_
    refine s_const rfl ?_
    refine sp_ite (fun h6 => ?_) (fun h6 => ?_)
    · refine s_ic0 rfl (zc_ge0 h6) ?_
      refine s_aload rfl rfl ?_
      refine s_getF rfl hT5 ho0 rfl ?_
      refine s_const rfl ?_
      refine s_aload rfl rfl ?_
      refine s_getI rfl hT5 ho0 ?_
      refine s_bin rfl rfl ?_
      refine s_iload rfl rfl ?_
      refine s_bin rfl rfl ?_
      refine s_aload rfl rfl ?_
      refine s_getF rfl hT5 ho0 rfl ?_
      refine s_const rfl ?_
      refine s_iload rfl rfl ?_
      refine s_bin rfl rfl ?_
      refine s_iald rfl hT5 (of_10_6 ho0) ?_
      refine s_iast rfl hT5 (of_10_22 ho0) (fun w7 hT7 => ?_)
      refine s_iincF (fun v1_8 => [(0, .ref o0), (1, .int v1_8)]) rfl rfl (fun _ => subl_c rfl (subl_c rfl (subl_n))) (fun v1_8 => ?_)
      refine s_goto rfl ?_
      exact s_back (lvL := lvL4) (s' := v1_8) (subl_c rfl (subl_c rfl (subl_n))) hT7 (fun _ _ h => h)
    · refine s_ic1 rfl (zc_ge1 h6) ?_
      refine s_aload rfl rfl ?_
      refine s_dup rfl rfl ?_
      refine s_getI rfl hT5 ho0 ?_
      refine s_const rfl ?_
      refine s_bin rfl rfl ?_
      refine s_putI rfl hT5 ho0 rfl (fun w9 hT9 => ?_)
      exact s_retV rfl rfl hT9 (fun _ _ h => h)
  · refine sp_ite (fun h11 => ?_) (fun h11 => ?_)
    · refine s_ic0 rfl (zc_ne0 h11) ?_
      refine s_const rfl ?_
      refine s_istoreF [(0, .ref o0), (1, .int 0)] rfl (subl_c rfl (subl_c rfl (subl_n))) ?_
      let lvL13 : Int32 → List (Nat × Value) := fun s19 => [(0, .ref o0), (1, .int s19)]
      refine s_loop lvL13 (subl_c rfl (subl_c rfl (subl_n))) hT (fun v1_12 w14 hT14 => ?_)
      show sp _ (PP _ _ _ (11, [(0, .ref o0), (1, .int v1_12)], [], w14))
      refine s_iload rfl rfl ?_
      refine s_const rfl ?_
      refine sp_ite (fun h15 => ?_) (fun h15 => ?_)
      · refine s_ic0 rfl (zc_ge0 h15) ?_
        refine s_aload rfl rfl ?_
        refine s_getF rfl hT14 ho0 rfl ?_
        refine s_iload rfl rfl ?_
        refine s_aload rfl rfl ?_
        refine s_getF rfl hT14 ho0 rfl ?_
        refine s_iload rfl rfl ?_
        refine s_const rfl ?_
        refine s_bin rfl rfl ?_
        refine s_iald rfl hT14 (of_10_22 ho0) ?_
        refine s_iast rfl hT14 (of_10_22 ho0) (fun w16 hT16 => ?_)
        refine s_iincF (fun v1_17 => [(0, .ref o0), (1, .int v1_17)]) rfl rfl (fun _ => subl_c rfl (subl_c rfl (subl_n))) (fun v1_17 => ?_)
        refine s_goto rfl ?_
        exact s_back (lvL := lvL13) (s' := v1_17) (subl_c rfl (subl_c rfl (subl_n))) hT16 (fun _ _ h => h)
      · refine s_ic1 rfl (zc_ge1 h15) ?_
        refine s_aload rfl rfl ?_
        refine s_const rfl ?_
        refine s_putI rfl hT14 ho0 rfl (fun w18 hT18 => ?_)
        exact s_fgt _ (subl_c rfl (subl_n)) (sp_upr (hj1 () w18 hT18))
    · refine s_ic1 rfl (zc_ne1 h11) ?_
      exact s_fgt _ (subl_c rfl (subl_n)) (hj1 () w hT)
/-- RugReaderModel.dirBetween(II)I -/
def sh_226 (p0 : Int32) (p1 : Int32) (w : Wd) : Option (Int32 × Wd) := lt (if p1 - p0 = (-12) then 0 else if p1 - p0 = 1 then 1 else (if p1 - p0 = 12 then 2 else 3) : Int32) (fun z1 => some (z1, w))
set_option maxRecDepth 20000 in
set_option maxHeartbeats 4000000 in
theorem ev_226 {d : Nat} (hd : 1 ≤ d) {p0 : Int32} {p1 : Int32} {w : Wd} (hT : TY w)  : sp (sh_226 p0 p1 w) (fun r w' => TY w' ∧ Ev d 226 [.int p0, .int p1] w (cvI r) w') := by
  obtain ⟨d, rfl⟩ : ∃ d', d = d' + 1 := ⟨d - 1, by omega⟩
  refine ev_of (M := M226) zin_226 rfl (by decide) rfl (Nat.le_of_ble_eq_true rfl) (Or.inl rfl) hT ?_
  show sp _ (PP (Ev d) M226 (KR cvI) (0, [(0, .int p0), (1, .int p1)], [], w))
  unfold sh_226
  refine s_iload rfl rfl ?_
  refine s_iload rfl rfl ?_
  refine s_bin rfl rfl ?_
  refine s_const rfl ?_
  refine sp_lt (fun z1 hz1 => ?_)
  refine s_dia (36, [(0, .int p0), (1, .int p1)], [.int z1], w) ?_ (fun hk2 => ?_)
  · exact s_retI rfl rfl hT (fun _ _ h => h)
  · by_cases h3 : p1 - p0 = (-12)
    · refine s_ic0 rfl (zc_ne0 h3) ?_
      refine s_const rfl ?_
      refine s_goto rfl ?_
      refine s_cong ?_ hk2
      (rw [hz1, if_pos h3])
    · refine s_ic1 rfl (zc_ne1 h3) ?_
      refine s_iload rfl rfl ?_
      refine s_iload rfl rfl ?_
      refine s_bin rfl rfl ?_
      refine s_const rfl ?_
      by_cases h4 : p1 - p0 = 1
      · refine s_ic0 rfl (zc_ne0 h4) ?_
        refine s_const rfl ?_
        refine s_goto rfl ?_
        refine s_cong ?_ hk2
        (rw [hz1, if_neg h3, if_pos h4])
      · refine s_ic1 rfl (zc_ne1 h4) ?_
        refine s_iload rfl rfl ?_
        refine s_iload rfl rfl ?_
        refine s_bin rfl rfl ?_
        refine s_const rfl ?_
        by_cases h5 : p1 - p0 = 12
        · refine s_ic0 rfl (zc_ne0 h5) ?_
          refine s_const rfl ?_
          refine s_goto rfl ?_
          refine s_cong ?_ hk2
          (rw [hz1, if_neg h3, if_neg h4, if_pos h5])
        · refine s_ic1 rfl (zc_ne1 h5) ?_
          refine s_const rfl ?_
          refine s_cong ?_ hk2
          (rw [hz1, if_neg h3, if_neg h4, if_neg h5])
/-- RugReaderModel.walks(III)V -/
def sh_225 (o0 : Nat) (p1 : Int32) (p2 : Int32) (p3 : Int32) (w : Wd) : Option (Unit × Wd) := gd (ib (177 + p2) 10265) (lt (wI w (o0 + 2) (ix (177 + p2)) : Int32) (fun v4_1 => itM (fun (v5_2 : Int32) (w4 : Wd) => if v5_2 < v4_1 then (gd (ib ((183 + (41 * p2)) + v5_2) 10265) (lt (wI w4 (o0 + 2) (ix ((183 + (41 * p2)) + v5_2)) : Int32) (fun v6_6 => jn (fun (t8 : Int32) (w9 : Wd) => gd (ib (2308 + (((6 * v6_6) + p1) * 9)) 10265) (gd (ib (2308 + (((6 * v6_6) + p1) * 9)) 10265) (stI w9 (o0 + 2) (ix (2308 + (((6 * v6_6) + p1) * 9))) ((wI w9 (o0 + 2) (ix (2308 + (((6 * v6_6) + p1) * 9)))) + 1) (fun w10 => gd (ib (1012 + (9 * v6_6)) 10265) (gd (ib (7 + p1) 10265) (gd (ib (1012 + (9 * v6_6)) 10265) (stI w10 (o0 + 2) (ix (1012 + (9 * v6_6))) ((wI w10 (o0 + 2) (ix (1012 + (9 * v6_6)))) + (wI w10 (o0 + 2) (ix (7 + p1)))) (fun w11 => gd (ib (436 + (4 * v6_6)) 10265) (stI w11 (o0 + 2) (ix (436 + (4 * v6_6))) (p1 + 1) (fun w12 => gd (ib ((436 + (4 * v6_6)) + 1) 10265) (stI w12 (o0 + 2) (ix ((436 + (4 * v6_6)) + 1)) p3 (fun w13 => gd (ib ((436 + (4 * v6_6)) + 2) 10265) (stI w13 (o0 + 2) (ix ((436 + (4 * v6_6)) + 2)) t8 (fun w14 => gd (ib 429 10265) (gd (ib ((436 + (4 * v6_6)) + 3) 10265) (stI w14 (o0 + 2) (ix ((436 + (4 * v6_6)) + 3)) (wI w14 (o0 + 2) (ix 429)) (fun w15 => lt (v5_2 + 1 : Int32) (fun v5_16 => some (.inl v5_16, w15))))))))))))))))))) (fun j7 => if v4_1 = 1 then (j7 0 w4) else (if v5_2 + 1 < v4_1 then (gd (ib (((183 + (41 * p2)) + v5_2) + 1) 10265) (cl (sh_226 v6_6 (wI w4 (o0 + 2) (ix (((183 + (41 * p2)) + v5_2) + 1))) w4) (fun r20 w19 => j7 r20 w19))) else (gd (ib (((183 + (41 * p2)) + v5_2) - 1) 10265) (cl (sh_226 (wI w4 (o0 + 2) (ix (((183 + (41 * p2)) + v5_2) - 1))) v6_6 w4) (fun r22 w21 => j7 r22 w21)))))))) else (gd (ib (430 + p1) 10265) (gd (ib (430 + p1) 10265) (stI w4 (o0 + 2) (ix (430 + p1)) ((wI w4 (o0 + 2) (ix (430 + p1))) + 1) (fun w24 => some (.inr (()), w24)))))) FU 0 w))
set_option maxRecDepth 20000 in
set_option maxHeartbeats 4000000 in
theorem ev_225 {d : Nat} (hd : 2 ≤ d) {o0 : Nat} {p1 : Int32} {p2 : Int32} {p3 : Int32} {w : Wd} (hT : TY w) (ho0 : ist o0 10) : sp (sh_225 o0 p1 p2 p3 w) (fun r w' => TY w' ∧ Ev d 225 [.ref o0, .int p1, .int p2, .int p3] w (cvV r) w') := by
  obtain ⟨d, rfl⟩ : ∃ d', d = d' + 1 := ⟨d - 1, by omega⟩
  refine ev_of (M := M225) zin_225 rfl (by decide) rfl (Nat.le_of_ble_eq_true rfl) (Or.inr ⟨o0, _, rfl, ho0⟩) hT ?_
  show sp _ (PP (Ev d) M225 (KR cvV) (0, [(0, .ref o0), (1, .int p1), (2, .int p2), (3, .int p3)], [], w))
  unfold sh_225
  refine s_aload rfl rfl ?_
  refine s_getF rfl hT ho0 rfl ?_
  refine s_const rfl ?_
  refine s_iload rfl rfl ?_
  refine s_bin rfl rfl ?_
  refine s_iald rfl hT (of_10_6 ho0) ?_
  refine s_nmI (fun v4_1 => ?_)
  refine s_istoreF [(0, .ref o0), (1, .int p1), (2, .int p2), (3, .int p3), (4, .int v4_1)] rfl (subl_c rfl (subl_c rfl (subl_c rfl (subl_c rfl (subl_c rfl (subl_n)))))) ?_
  refine s_const rfl ?_
  refine s_istoreF [(0, .ref o0), (1, .int p1), (2, .int p2), (3, .int p3), (4, .int v4_1), (5, .int 0)] rfl (subl_c rfl (subl_c rfl (subl_c rfl (subl_c rfl (subl_c rfl (subl_c rfl (subl_n))))))) ?_
  let lvL3 : Int32 → List (Nat × Value) := fun s25 => [(0, .ref o0), (1, .int p1), (2, .int p2), (3, .int p3), (4, .int v4_1), (5, .int s25)]
  refine s_loop lvL3 (subl_c rfl (subl_c rfl (subl_c rfl (subl_c rfl (subl_c rfl (subl_c rfl (subl_n))))))) hT (fun v5_2 w4 hT4 => ?_)
  show sp _ (PP _ _ _ (15, [(0, .ref o0), (1, .int p1), (2, .int p2), (3, .int p3), (4, .int v4_1), (5, .int v5_2)], [], w4))
  refine s_iload rfl rfl ?_
  refine s_iload rfl rfl ?_
  refine sp_ite (fun h5 => ?_) (fun h5 => ?_)
  · refine s_ic0 rfl (zc_ge0 h5) ?_
    refine s_aload rfl rfl ?_
    refine s_getF rfl hT4 ho0 rfl ?_
    refine s_const rfl ?_
    refine s_const rfl ?_
    refine s_iload rfl rfl ?_
    refine s_bin rfl rfl ?_
    refine s_bin rfl rfl ?_
    refine s_iload rfl rfl ?_
    refine s_bin rfl rfl ?_
    refine s_iald rfl hT4 (of_10_6 ho0) ?_
    refine s_nmI (fun v6_6 => ?_)
    refine s_istoreF [(0, .ref o0), (1, .int p1), (2, .int p2), (3, .int p3), (4, .int v4_1), (5, .int v5_2), (6, .int v6_6)] rfl (subl_c rfl (subl_c rfl (subl_c rfl (subl_c rfl (subl_c rfl (subl_c rfl (subl_c rfl (subl_n)))))))) ?_
    refine s_iload rfl rfl ?_
    refine s_const rfl ?_
    refine s_jnP (fun (s23 : Int32) w => (108, [(0, .ref o0), (1, .int p1), (2, .int p2), (3, .int p3), (4, .int v4_1), (5, .int v5_2), (6, .int v6_6)], [.int s23], w)) (fun t8 w9 hT9 => ?_) (fun j7 hj7 => ?_)
    · show sp _ (PP _ _ _ (108, [(0, .ref o0), (1, .int p1), (2, .int p2), (3, .int p3), (4, .int v4_1), (5, .int v5_2), (6, .int v6_6)], [.int t8], w9))
      refine s_istoreF [(0, .ref o0), (1, .int p1), (2, .int p2), (3, .int p3), (4, .int v4_1), (5, .int v5_2), (6, .int v6_6), (7, .int t8)] rfl (subl_c rfl (subl_c rfl (subl_c rfl (subl_c rfl (subl_c rfl (subl_c rfl (subl_c rfl (subl_c rfl (subl_n))))))))) ?_
      refine s_aload rfl rfl ?_
      refine s_getF rfl hT9 ho0 rfl ?_
      refine s_const rfl ?_
      refine s_const rfl ?_
      refine s_iload rfl rfl ?_
      refine s_bin rfl rfl ?_
      refine s_iload rfl rfl ?_
      refine s_bin rfl rfl ?_
      refine s_const rfl ?_
      refine s_bin rfl rfl ?_
      refine s_bin rfl rfl ?_
      refine s_dup2 rfl ⟨rfl, rfl⟩ ?_
      refine s_iald rfl hT9 (of_10_6 ho0) ?_
      refine s_const rfl ?_
      refine s_bin rfl rfl ?_
      refine s_iast rfl hT9 (of_10_6 ho0) (fun w10 hT10 => ?_)
      refine s_aload rfl rfl ?_
      refine s_getF rfl hT10 ho0 rfl ?_
      refine s_const rfl ?_
      refine s_const rfl ?_
      refine s_iload rfl rfl ?_
      refine s_bin rfl rfl ?_
      refine s_bin rfl rfl ?_
      refine s_dup2 rfl ⟨rfl, rfl⟩ ?_
      refine s_iald rfl hT10 (of_10_6 ho0) ?_
      refine s_aload rfl rfl ?_
      refine s_getF rfl hT10 ho0 rfl ?_
      refine s_const rfl ?_
      refine s_iload rfl rfl ?_
      refine s_bin rfl rfl ?_
      refine s_iald rfl hT10 (of_10_6 ho0) ?_
      refine s_bin rfl rfl ?_
      refine s_iast rfl hT10 (of_10_6 ho0) (fun w11 hT11 => ?_)
      refine s_aload rfl rfl ?_
      refine s_getF rfl hT11 ho0 rfl ?_
      refine s_const rfl ?_
      refine s_const rfl ?_
      refine s_iload rfl rfl ?_
      refine s_bin rfl rfl ?_
      refine s_bin rfl rfl ?_
      refine s_iload rfl rfl ?_
      refine s_const rfl ?_
      refine s_bin rfl rfl ?_
      refine s_iast rfl hT11 (of_10_6 ho0) (fun w12 hT12 => ?_)
      refine s_aload rfl rfl ?_
      refine s_getF rfl hT12 ho0 rfl ?_
      refine s_const rfl ?_
      refine s_const rfl ?_
      refine s_iload rfl rfl ?_
      refine s_bin rfl rfl ?_
      refine s_bin rfl rfl ?_
      refine s_const rfl ?_
      refine s_bin rfl rfl ?_
      refine s_iload rfl rfl ?_
      refine s_iast rfl hT12 (of_10_6 ho0) (fun w13 hT13 => ?_)
      refine s_aload rfl rfl ?_
      refine s_getF rfl hT13 ho0 rfl ?_
      refine s_const rfl ?_
      refine s_const rfl ?_
      refine s_iload rfl rfl ?_
      refine s_bin rfl rfl ?_
      refine s_bin rfl rfl ?_
      refine s_const rfl ?_
      refine s_bin rfl rfl ?_
      refine s_iload rfl rfl ?_
      refine s_iast rfl hT13 (of_10_6 ho0) (fun w14 hT14 => ?_)
      refine s_aload rfl rfl ?_
      refine s_getF rfl hT14 ho0 rfl ?_
      refine s_const rfl ?_
      refine s_const rfl ?_
      refine s_iload rfl rfl ?_
      refine s_bin rfl rfl ?_
      refine s_bin rfl rfl ?_
      refine s_const rfl ?_
      refine s_bin rfl rfl ?_
      refine s_aload rfl rfl ?_
      refine s_getF rfl hT14 ho0 rfl ?_
      refine s_const rfl ?_
      refine s_iald rfl hT14 (of_10_6 ho0) ?_
      refine s_iast rfl hT14 (of_10_6 ho0) (fun w15 hT15 => ?_)
      refine s_iincF (fun v5_16 => [(0, .ref o0), (1, .int p1), (2, .int p2), (3, .int p3), (4, .int v4_1), (5, .int v5_16)]) rfl rfl (fun _ => subl_c rfl (subl_c rfl (subl_c rfl (subl_c rfl (subl_c rfl (subl_c rfl (subl_n))))))) (fun v5_16 => ?_)
      refine s_goto rfl ?_
      exact s_back (lvL := lvL3) (s' := v5_16) (subl_c rfl (subl_c rfl (subl_c rfl (subl_c rfl (subl_c rfl (subl_c rfl (subl_n))))))) hT15 (fun _ _ h => h)
    · refine sp_ite (fun h17 => ?_) (fun h17 => ?_)
      · refine s_ic0 rfl (zc_ne0 h17) ?_
        refine s_const rfl ?_
        refine s_goto rfl ?_
        exact s_fgt _ (subl_c rfl (subl_c rfl (subl_c rfl (subl_c rfl (subl_c rfl (subl_c rfl (subl_c rfl (subl_n)))))))) (hj7 0 w4 hT4)
      · refine s_ic1 rfl (zc_ne1 h17) ?_
        refine s_iload rfl rfl ?_
        refine s_const rfl ?_
        refine s_bin rfl rfl ?_
        refine s_iload rfl rfl ?_
        refine sp_ite (fun h18 => ?_) (fun h18 => ?_)
        · refine s_ic0 rfl (zc_ge0 h18) ?_
          refine s_iload rfl rfl ?_
          refine s_aload rfl rfl ?_
          refine s_getF rfl hT4 ho0 rfl ?_
          refine s_const rfl ?_
          refine s_const rfl ?_
          refine s_iload rfl rfl ?_
          refine s_bin rfl rfl ?_
          refine s_bin rfl rfl ?_
          refine s_iload rfl rfl ?_
          refine s_bin rfl rfl ?_
          refine s_const rfl ?_
          refine s_bin rfl rfl ?_
          refine s_iald rfl hT4 (of_10_6 ho0) ?_
          refine s_callI [.int v6_6, .int (wI w4 (o0 + 2) (ix (((183 + (41 * p2)) + v5_2) + 1)))] [] rfl rfl (Nat.le_of_ble_eq_true rfl) (ev_226 (d := d) (by omega) hT4 ) (fun r20 w19 hT19 => ?_)
          refine s_goto rfl ?_
          exact s_fgt _ (subl_c rfl (subl_c rfl (subl_c rfl (subl_c rfl (subl_c rfl (subl_c rfl (subl_c rfl (subl_n)))))))) (hj7 r20 w19 hT19)
        · refine s_ic1 rfl (zc_ge1 h18) ?_
          refine s_aload rfl rfl ?_
          refine s_getF rfl hT4 ho0 rfl ?_
          refine s_const rfl ?_
          refine s_const rfl ?_
          refine s_iload rfl rfl ?_
          refine s_bin rfl rfl ?_
          refine s_bin rfl rfl ?_
          refine s_iload rfl rfl ?_
          refine s_bin rfl rfl ?_
          refine s_const rfl ?_
          refine s_bin rfl rfl ?_
          refine s_iald rfl hT4 (of_10_6 ho0) ?_
          refine s_iload rfl rfl ?_
          refine s_callI [.int (wI w4 (o0 + 2) (ix (((183 + (41 * p2)) + v5_2) - 1))), .int v6_6] [] rfl rfl (Nat.le_of_ble_eq_true rfl) (ev_226 (d := d) (by omega) hT4 ) (fun r22 w21 hT21 => ?_)
          exact s_fgt _ (subl_c rfl (subl_c rfl (subl_c rfl (subl_c rfl (subl_c rfl (subl_c rfl (subl_c rfl (subl_n)))))))) (hj7 r22 w21 hT21)
  · refine s_ic1 rfl (zc_ge1 h5) ?_
    refine s_aload rfl rfl ?_
    refine s_getF rfl hT4 ho0 rfl ?_
    refine s_const rfl ?_
    refine s_iload rfl rfl ?_
    refine s_bin rfl rfl ?_
    refine s_dup2 rfl ⟨rfl, rfl⟩ ?_
    refine s_iald rfl hT4 (of_10_6 ho0) ?_
    refine s_const rfl ?_
    refine s_bin rfl rfl ?_
    refine s_iast rfl hT4 (of_10_6 ho0) (fun w24 hT24 => ?_)
    exact s_retV rfl rfl hT24 (fun _ _ h => h)
/-- RugReaderModel.goes(III)I -/
def sh_223 (o0 : Nat) (p1 : Int32) (p2 : Int32) (p3 : Int32) (w : Wd) : Option (Int32 × Wd) := stI w o0 0 0 (fun w1 => cl (sh_211 o0 p1 w1) (fun r3 w2 => if r3 = true then (cl (sh_221 o0 p2 w2) (fun r6 w5 => if r6 = true then (cl (sh_211 o0 p3 w5) (fun r9 w8 => if r9 = true then (cl (sh_224 o0 w8) (fun _ w11 => gd (ib (13 + p3) 10265) (cl (sh_225 o0 p1 p2 (wI w11 (o0 + 2) (ix (13 + p3))) w11) (fun _ w13 => gd (ib (177 + p2) 10265) (some (wI w13 (o0 + 2) (ix (177 + p2)), w13)))))) else (some ((-1), w8)))) else (some ((-1), w5)))) else (some ((-1), w2))))
set_option maxRecDepth 20000 in
set_option maxHeartbeats 4000000 in
theorem ev_223 {d : Nat} (hd : 3 ≤ d) {o0 : Nat} {p1 : Int32} {p2 : Int32} {p3 : Int32} {w : Wd} (hT : TY w) (ho0 : ist o0 10) : sp (sh_223 o0 p1 p2 p3 w) (fun r w' => TY w' ∧ Ev d 223 [.ref o0, .int p1, .int p2, .int p3] w (cvI r) w') := by
  obtain ⟨d, rfl⟩ : ∃ d', d = d' + 1 := ⟨d - 1, by omega⟩
  refine ev_of (M := M223) zin_223 rfl (by decide) rfl (Nat.le_of_ble_eq_true rfl) (Or.inr ⟨o0, _, rfl, ho0⟩) hT ?_
  show sp _ (PP (Ev d) M223 (KR cvI) (0, [(0, .ref o0), (1, .int p1), (2, .int p2), (3, .int p3)], [], w))
  unfold sh_223
  refine s_aload rfl rfl ?_
  refine s_const rfl ?_
  refine s_putI rfl hT ho0 rfl (fun w1 hT1 => ?_)
  refine s_aload rfl rfl ?_
  refine s_iload rfl rfl ?_
  refine s_callZ [.ref o0, .int p1] [] rfl rfl (Nat.le_of_ble_eq_true rfl) (ev_211 (d := d) (by omega) hT1 ho0) (fun r3 w2 hT2 => ?_)
  refine sp_ite (fun h4 => ?_) (fun h4 => ?_)
  · refine s_if0 rfl (zb_eq0 h4) ?_
    refine s_aload rfl rfl ?_
    refine s_iload rfl rfl ?_
    refine s_callZ [.ref o0, .int p2] [] rfl rfl (Nat.le_of_ble_eq_true rfl) (ev_221 (d := d) (by omega) hT2 ho0) (fun r6 w5 hT5 => ?_)
    refine sp_ite (fun h7 => ?_) (fun h7 => ?_)
    · refine s_if0 rfl (zb_eq0 h7) ?_
      refine s_aload rfl rfl ?_
      refine s_iload rfl rfl ?_
      refine s_callZ [.ref o0, .int p3] [] rfl rfl (Nat.le_of_ble_eq_true rfl) (ev_211 (d := d) (by omega) hT5 ho0) (fun r9 w8 hT8 => ?_)
      refine sp_ite (fun h10 => ?_) (fun h10 => ?_)
      · refine s_if1 rfl (zb_ne1 h10) ?_
        refine s_aload rfl rfl ?_
        refine s_callV [.ref o0] [] rfl rfl (Nat.le_of_ble_eq_true rfl) (ev_224 (d := d) (by omega) hT8 ho0) (fun _ w11 hT11 => ?_)
        refine s_aload rfl rfl ?_
        refine s_iload rfl rfl ?_
        refine s_iload rfl rfl ?_
        refine s_aload rfl rfl ?_
        refine s_getF rfl hT11 ho0 rfl ?_
        refine s_const rfl ?_
        refine s_iload rfl rfl ?_
        refine s_bin rfl rfl ?_
        refine s_iald rfl hT11 (of_10_6 ho0) ?_
        refine s_callV [.ref o0, .int p1, .int p2, .int (wI w11 (o0 + 2) (ix (13 + p3)))] [] rfl rfl (Nat.le_of_ble_eq_true rfl) (ev_225 (d := d) (by omega) hT11 ho0) (fun _ w13 hT13 => ?_)
        refine s_aload rfl rfl ?_
        refine s_getF rfl hT13 ho0 rfl ?_
        refine s_const rfl ?_
        refine s_iload rfl rfl ?_
        refine s_bin rfl rfl ?_
        refine s_iald rfl hT13 (of_10_6 ho0) ?_
        exact s_retI rfl rfl hT13 (fun _ _ h => h)
      · refine s_if0 rfl (zb_ne0 h10) ?_
        refine s_const rfl ?_
        exact s_retI rfl rfl hT8 (fun _ _ h => h)
    · refine s_if1 rfl (zb_eq1 h7) ?_
      refine s_const rfl ?_
      exact s_retI rfl rfl hT5 (fun _ _ h => h)
  · refine s_if1 rfl (zb_eq1 h4) ?_
    refine s_const rfl ?_
    exact s_retI rfl rfl hT2 (fun _ _ h => h)
/-- RugReaderModel.older(I)V -/
def sh_229 (o0 : Nat) (p1 : Int32) (w : Wd) : Option (Unit × Wd) := itM (fun (v2_1 : Int32) (w3 : Wd) => if 0 < v2_1 then (gd (ib 6 10265) (if v2_1 < wI w3 (o0 + 2) (ix 6) then (gd (ib ((p1 + v2_1) - 1) 10265) (gd (ib (p1 + v2_1) 10265) (stI w3 (o0 + 2) (ix (p1 + v2_1)) (wI w3 (o0 + 2) (ix ((p1 + v2_1) - 1))) (fun w6 => lt (v2_1 + (-1) : Int32) (fun v2_7 => some (.inl v2_7, w6)))))) else (gd (ib (p1 + v2_1) 10265) (stI w3 (o0 + 2) (ix (p1 + v2_1)) 0 (fun w8 => lt (v2_1 + (-1) : Int32) (fun v2_9 => some (.inl v2_9, w8))))))) else (gd (ib p1 10265) (stI w3 (o0 + 2) (ix p1) 0 (fun w10 => some (.inr (()), w10))))) FU 8 w
set_option maxRecDepth 20000 in
set_option maxHeartbeats 4000000 in
theorem ev_229 {d : Nat} (hd : 1 ≤ d) {o0 : Nat} {p1 : Int32} {w : Wd} (hT : TY w) (ho0 : ist o0 10) : sp (sh_229 o0 p1 w) (fun r w' => TY w' ∧ Ev d 229 [.ref o0, .int p1] w (cvV r) w') := by
  obtain ⟨d, rfl⟩ : ∃ d', d = d' + 1 := ⟨d - 1, by omega⟩
  refine ev_of (M := M229) zin_229 rfl (by decide) rfl (Nat.le_of_ble_eq_true rfl) (Or.inr ⟨o0, _, rfl, ho0⟩) hT ?_
  show sp _ (PP (Ev d) M229 (KR cvV) (0, [(0, .ref o0), (1, .int p1)], [], w))
  unfold sh_229
  refine s_const rfl ?_
  refine s_istoreF [(0, .ref o0), (1, .int p1), (2, .int 8)] rfl (subl_c rfl (subl_c rfl (subl_c rfl (subl_n)))) ?_
  let lvL2 : Int32 → List (Nat × Value) := fun s11 => [(0, .ref o0), (1, .int p1), (2, .int s11)]
  refine s_loop lvL2 (subl_c rfl (subl_c rfl (subl_c rfl (subl_n)))) hT (fun v2_1 w3 hT3 => ?_)
  show sp _ (PP _ _ _ (3, [(0, .ref o0), (1, .int p1), (2, .int v2_1)], [], w3))
  refine s_iload rfl rfl ?_
  refine sp_ite (fun h4 => ?_) (fun h4 => ?_)
  · refine s_if0 rfl (zc_le0 h4) ?_
    refine s_aload rfl rfl ?_
    refine s_getF rfl hT3 ho0 rfl ?_
    refine s_iload rfl rfl ?_
    refine s_iload rfl rfl ?_
    refine s_bin rfl rfl ?_
    refine s_iload rfl rfl ?_
    refine s_aload rfl rfl ?_
    refine s_getF rfl hT3 ho0 rfl ?_
    refine s_const rfl ?_
    refine s_iald rfl hT3 (of_10_6 ho0) ?_
    refine sp_ite (fun h5 => ?_) (fun h5 => ?_)
    · refine s_ic0 rfl (zc_ge0 h5) ?_
      refine s_aload rfl rfl ?_
      refine s_getF rfl hT3 ho0 rfl ?_
      refine s_iload rfl rfl ?_
      refine s_iload rfl rfl ?_
      refine s_bin rfl rfl ?_
      refine s_const rfl ?_
      refine s_bin rfl rfl ?_
      refine s_iald rfl hT3 (of_10_6 ho0) ?_
      refine s_goto rfl ?_
      refine s_iast rfl hT3 (of_10_6 ho0) (fun w6 hT6 => ?_)
      refine s_iincF (fun v2_7 => [(0, .ref o0), (1, .int p1), (2, .int v2_7)]) rfl rfl (fun _ => subl_c rfl (subl_c rfl (subl_c rfl (subl_n)))) (fun v2_7 => ?_)
      refine s_goto rfl ?_
      exact s_back (lvL := lvL2) (s' := v2_7) (subl_c rfl (subl_c rfl (subl_c rfl (subl_n)))) hT6 (fun _ _ h => h)
    · refine s_ic1 rfl (zc_ge1 h5) ?_
      refine s_const rfl ?_
      refine s_iast rfl hT3 (of_10_6 ho0) (fun w8 hT8 => ?_)
      refine s_iincF (fun v2_9 => [(0, .ref o0), (1, .int p1), (2, .int v2_9)]) rfl rfl (fun _ => subl_c rfl (subl_c rfl (subl_c rfl (subl_n)))) (fun v2_9 => ?_)
      refine s_goto rfl ?_
      exact s_back (lvL := lvL2) (s' := v2_9) (subl_c rfl (subl_c rfl (subl_c rfl (subl_n)))) hT8 (fun _ _ h => h)
  · refine s_if1 rfl (zc_le1 h4) ?_
    refine s_aload rfl rfl ?_
    refine s_getF rfl hT3 ho0 rfl ?_
    refine s_iload rfl rfl ?_
    refine s_const rfl ?_
    refine s_iast rfl hT3 (of_10_6 ho0) (fun w10 hT10 => ?_)
    exact s_retV rfl rfl hT10 (fun _ _ h => h)
/-- RugReaderModel.clears(II)V -/
def sh_230 (o0 : Nat) (p1 : Int32) (p2 : Int32) (w : Wd) : Option (Unit × Wd) := itM (fun (v3_1 : Int32) (w3 : Wd) => if v3_1 < p2 then (gd (ib (p1 + v3_1) 10265) (stI w3 (o0 + 2) (ix (p1 + v3_1)) 0 (fun w5 => lt (v3_1 + 1 : Int32) (fun v3_6 => some (.inl v3_6, w5))))) else (some (.inr (()), w3))) FU 0 w
set_option maxRecDepth 20000 in
set_option maxHeartbeats 4000000 in
theorem ev_230 {d : Nat} (hd : 1 ≤ d) {o0 : Nat} {p1 : Int32} {p2 : Int32} {w : Wd} (hT : TY w) (ho0 : ist o0 10) : sp (sh_230 o0 p1 p2 w) (fun r w' => TY w' ∧ Ev d 230 [.ref o0, .int p1, .int p2] w (cvV r) w') := by
  obtain ⟨d, rfl⟩ : ∃ d', d = d' + 1 := ⟨d - 1, by omega⟩
  refine ev_of (M := M230) zin_230 rfl (by decide) rfl (Nat.le_of_ble_eq_true rfl) (Or.inr ⟨o0, _, rfl, ho0⟩) hT ?_
  show sp _ (PP (Ev d) M230 (KR cvV) (0, [(0, .ref o0), (1, .int p1), (2, .int p2)], [], w))
  unfold sh_230
  refine s_const rfl ?_
  refine s_istoreF [(0, .ref o0), (1, .int p1), (2, .int p2), (3, .int 0)] rfl (subl_c rfl (subl_c rfl (subl_c rfl (subl_c rfl (subl_n))))) ?_
  let lvL2 : Int32 → List (Nat × Value) := fun s7 => [(0, .ref o0), (1, .int p1), (2, .int p2), (3, .int s7)]
  refine s_loop lvL2 (subl_c rfl (subl_c rfl (subl_c rfl (subl_c rfl (subl_n))))) hT (fun v3_1 w3 hT3 => ?_)
  show sp _ (PP _ _ _ (2, [(0, .ref o0), (1, .int p1), (2, .int p2), (3, .int v3_1)], [], w3))
  refine s_iload rfl rfl ?_
  refine s_iload rfl rfl ?_
  refine sp_ite (fun h4 => ?_) (fun h4 => ?_)
  · refine s_ic0 rfl (zc_ge0 h4) ?_
    refine s_aload rfl rfl ?_
    refine s_getF rfl hT3 ho0 rfl ?_
    refine s_iload rfl rfl ?_
    refine s_iload rfl rfl ?_
    refine s_bin rfl rfl ?_
    refine s_const rfl ?_
    refine s_iast rfl hT3 (of_10_6 ho0) (fun w5 hT5 => ?_)
    refine s_iincF (fun v3_6 => [(0, .ref o0), (1, .int p1), (2, .int p2), (3, .int v3_6)]) rfl rfl (fun _ => subl_c rfl (subl_c rfl (subl_c rfl (subl_c rfl (subl_n))))) (fun v3_6 => ?_)
    refine s_goto rfl ?_
    exact s_back (lvL := lvL2) (s' := v3_6) (subl_c rfl (subl_c rfl (subl_c rfl (subl_c rfl (subl_n))))) hT5 (fun _ _ h => h)
  · refine s_ic1 rfl (zc_ge1 h4) ?_
    exact s_retV rfl rfl hT3 (fun _ _ h => h)
/-- RugReaderModel.day()V -/
def sh_228 (o0 : Nat) (w : Wd) : Option (Unit × Wd) := gd (ib 429 10265) (gd (ib 429 10265) (stI w (o0 + 2) (ix 429) ((wI w (o0 + 2) (ix 429)) + 1) (fun w1 => itM (fun (v1_2 : Int32) (w4 : Wd) => if v1_2 < 864 then (cl (sh_229 o0 (2308 + (9 * v1_2)) w4) (fun _ w6 => lt (v1_2 + 1 : Int32) (fun v1_8 => some (.inl v1_8, w6)))) else (itM (fun (v1_9 : Int32) (w11 : Wd) => if v1_9 < 144 then (cl (sh_229 o0 (1012 + (9 * v1_9)) w11) (fun _ w13 => gd (ib (436 + (4 * v1_9)) 10265) (if 0 < wI w13 (o0 + 2) (ix (436 + (4 * v1_9))) then (gd (ib 429 10265) (gd (ib ((436 + (4 * v1_9)) + 3) 10265) (gd (ib 6 10265) (if wI w13 (o0 + 2) (ix 6) ≤ (wI w13 (o0 + 2) (ix 429)) - (wI w13 (o0 + 2) (ix ((436 + (4 * v1_9)) + 3))) then (cl (sh_230 o0 (436 + (4 * v1_9)) 4 w13) (fun _ w17 => lt (v1_9 + 1 : Int32) (fun v1_19 => some (.inl v1_19, w17)))) else (lt (v1_9 + 1 : Int32) (fun v1_20 => some (.inl v1_20, w13))))))) else (lt (v1_9 + 1 : Int32) (fun v1_21 => some (.inl v1_21, w13)))))) else (some (.inr (.inr (())), w11))) FU 0 w4)) FU 0 w1)))
set_option maxRecDepth 20000 in
set_option maxHeartbeats 4000000 in
theorem ev_228 {d : Nat} (hd : 2 ≤ d) {o0 : Nat} {w : Wd} (hT : TY w) (ho0 : ist o0 10) : sp (sh_228 o0 w) (fun r w' => TY w' ∧ Ev d 228 [.ref o0] w (cvV r) w') := by
  obtain ⟨d, rfl⟩ : ∃ d', d = d' + 1 := ⟨d - 1, by omega⟩
  refine ev_of (M := M228) zin_228 rfl (by decide) rfl (Nat.le_of_ble_eq_true rfl) (Or.inr ⟨o0, _, rfl, ho0⟩) hT ?_
  show sp _ (PP (Ev d) M228 (KR cvV) (0, [(0, .ref o0)], [], w))
  unfold sh_228
  refine s_aload rfl rfl ?_
  refine s_getF rfl hT ho0 rfl ?_
  refine s_const rfl ?_
  refine s_dup2 rfl ⟨rfl, rfl⟩ ?_
  refine s_iald rfl hT (of_10_6 ho0) ?_
  refine s_const rfl ?_
  refine s_bin rfl rfl ?_
  refine s_iast rfl hT (of_10_6 ho0) (fun w1 hT1 => ?_)
  refine s_const rfl ?_
  refine s_istoreF [(0, .ref o0), (1, .int 0)] rfl (subl_c rfl (subl_c rfl (subl_n))) ?_
  let lvL3 : Int32 → List (Nat × Value) := fun s23 => [(0, .ref o0), (1, .int s23)]
  refine s_loop lvL3 (subl_c rfl (subl_c rfl (subl_n))) hT1 (fun v1_2 w4 hT4 => ?_)
  show sp _ (PP _ _ _ (14, [(0, .ref o0), (1, .int v1_2)], [], w4))
  refine s_iload rfl rfl ?_
  refine s_const rfl ?_
  refine sp_ite (fun h5 => ?_) (fun h5 => ?_)
  · refine s_ic0 rfl (zc_ge0 h5) ?_
    refine s_aload rfl rfl ?_
    refine s_const rfl ?_
    refine s_const rfl ?_
    refine s_iload rfl rfl ?_
    refine s_bin rfl rfl ?_
    refine s_bin rfl rfl ?_
    refine s_callV [.ref o0, .int (2308 + (9 * v1_2))] [] rfl rfl (Nat.le_of_ble_eq_true rfl) (ev_229 (d := d) (by omega) hT4 ho0) (fun _ w6 hT6 => ?_)
    refine s_iincF (fun v1_8 => [(0, .ref o0), (1, .int v1_8)]) rfl rfl (fun _ => subl_c rfl (subl_c rfl (subl_n))) (fun v1_8 => ?_)
    refine s_goto rfl ?_
    exact s_back (lvL := lvL3) (s' := v1_8) (subl_c rfl (subl_c rfl (subl_n))) hT6 (fun _ _ h => h)
  · refine s_ic1 rfl (zc_ge1 h5) ?_
    refine s_const rfl ?_
    refine s_istoreF [(0, .ref o0), (1, .int 0)] rfl (subl_c rfl (subl_c rfl (subl_n))) ?_
    let lvL10 : Int32 → List (Nat × Value) := fun s22 => [(0, .ref o0), (1, .int s22)]
    refine s_loop lvL10 (subl_c rfl (subl_c rfl (subl_n))) hT4 (fun v1_9 w11 hT11 => ?_)
    show sp _ (PP _ _ _ (41, [(0, .ref o0), (1, .int v1_9)], [], w11))
    refine s_iload rfl rfl ?_
    refine s_const rfl ?_
    refine sp_ite (fun h12 => ?_) (fun h12 => ?_)
    · refine s_ic0 rfl (zc_ge0 h12) ?_
      refine s_aload rfl rfl ?_
      refine s_const rfl ?_
      refine s_const rfl ?_
      refine s_iload rfl rfl ?_
      refine s_bin rfl rfl ?_
      refine s_bin rfl rfl ?_
      refine s_callV [.ref o0, .int (1012 + (9 * v1_9))] [] rfl rfl (Nat.le_of_ble_eq_true rfl) (ev_229 (d := d) (by omega) hT11 ho0) (fun _ w13 hT13 => ?_)
      refine s_aload rfl rfl ?_
      refine s_getF rfl hT13 ho0 rfl ?_
      refine s_const rfl ?_
      refine s_const rfl ?_
      refine s_iload rfl rfl ?_
      refine s_bin rfl rfl ?_
      refine s_bin rfl rfl ?_
      refine s_iald rfl hT13 (of_10_6 ho0) ?_
      refine sp_ite (fun h15 => ?_) (fun h15 => ?_)
      · refine s_if0 rfl (zc_le0 h15) ?_
        refine s_aload rfl rfl ?_
        refine s_getF rfl hT13 ho0 rfl ?_
        refine s_const rfl ?_
        refine s_iald rfl hT13 (of_10_6 ho0) ?_
        refine s_aload rfl rfl ?_
        refine s_getF rfl hT13 ho0 rfl ?_
        refine s_const rfl ?_
        refine s_const rfl ?_
        refine s_iload rfl rfl ?_
        refine s_bin rfl rfl ?_
        refine s_bin rfl rfl ?_
        refine s_const rfl ?_
        refine s_bin rfl rfl ?_
        refine s_iald rfl hT13 (of_10_6 ho0) ?_
        refine s_bin rfl rfl ?_
        refine s_aload rfl rfl ?_
        refine s_getF rfl hT13 ho0 rfl ?_
        refine s_const rfl ?_
        refine s_iald rfl hT13 (of_10_6 ho0) ?_
        refine sp_ite (fun h16 => ?_) (fun h16 => ?_)
        · refine s_ic0 rfl (zc_lt0 h16) ?_
          refine s_aload rfl rfl ?_
          refine s_const rfl ?_
          refine s_const rfl ?_
          refine s_iload rfl rfl ?_
          refine s_bin rfl rfl ?_
          refine s_bin rfl rfl ?_
          refine s_const rfl ?_
          refine s_callV [.ref o0, .int (436 + (4 * v1_9)), .int 4] [] rfl rfl (Nat.le_of_ble_eq_true rfl) (ev_230 (d := d) (by omega) hT13 ho0) (fun _ w17 hT17 => ?_)
          refine s_iincF (fun v1_19 => [(0, .ref o0), (1, .int v1_19)]) rfl rfl (fun _ => subl_c rfl (subl_c rfl (subl_n))) (fun v1_19 => ?_)
          refine s_goto rfl ?_
          exact s_back (lvL := lvL10) (s' := v1_19) (subl_c rfl (subl_c rfl (subl_n))) hT17 (fun _ _ h => h)
        · refine s_ic1 rfl (zc_lt1 h16) ?_
          refine s_iincF (fun v1_20 => [(0, .ref o0), (1, .int v1_20)]) rfl rfl (fun _ => subl_c rfl (subl_c rfl (subl_n))) (fun v1_20 => ?_)
          refine s_goto rfl ?_
          exact s_back (lvL := lvL10) (s' := v1_20) (subl_c rfl (subl_c rfl (subl_n))) hT13 (fun _ _ h => h)
      · refine s_if1 rfl (zc_le1 h15) ?_
        refine s_iincF (fun v1_21 => [(0, .ref o0), (1, .int v1_21)]) rfl rfl (fun _ => subl_c rfl (subl_c rfl (subl_n))) (fun v1_21 => ?_)
        refine s_goto rfl ?_
        exact s_back (lvL := lvL10) (s' := v1_21) (subl_c rfl (subl_c rfl (subl_n))) hT13 (fun _ _ h => h)
    · refine s_ic1 rfl (zc_ge1 h12) ?_
      exact s_retV rfl rfl hT11 (fun _ _ h => h)
