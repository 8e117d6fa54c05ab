/-! printed by program (wip/whole/gen/sh.py): the methods as programs over worlds, and that the small machine does what they say -/
/-- RugReader.goes(III)I -/
def sh_68 (o0 : Nat) (p1 : Int32) (p2 : Int32) (p3 : Int32) (w : Wd) : Option (Int32 × Wd) := der (wR w o0 2) (fun a1 => cl (sh_69 a1 p1 w) (fun r3 w2 => if r3 = true then (der (wR w2 o0 2) (fun a5 => cl (sh_67 a5 p2 w2) (fun r7 w6 => if r7 = true then (der (wR w6 o0 2) (fun a9 => cl (sh_69 a9 p3 w6) (fun r11 w10 => if r11 = true then (cl (sh_70 o0 w10) (fun _ w13 => der (wR w13 o0 2) (fun a15 => der (wR w13 o0 2) (fun a16 => cl (sh_73 a16 p3 w13) (fun r18 w17 => cl (sh_74 (o0 + 35) a15 p1 p2 r18 w17) (fun _ w19 => der (wR w19 o0 2) (fun a21 => cl (sh_66 a21 p2 w19) (fun r23 w22 => some (r23, w22))))))))) else (some ((-1), w10))))) else (some ((-1), w6))))) else (some ((-1), w2))))
set_option maxRecDepth 20000 in
set_option maxHeartbeats 4000000 in
theorem ev_68 {d : Nat} (hd : 6 ≤ d) {o0 : Nat} {p1 : Int32} {p2 : Int32} {p3 : Int32} {w : Wd} (hT : TY w) (ho0 : ist o0 9) : sp (sh_68 o0 p1 p2 p3 w) (fun r w' => TY w' ∧ Ev d 68 [.ref o0, .int p1, .int p2, .int p3] w (cvI r) w') := by
  obtain ⟨d, rfl⟩ : ∃ d', d = d' + 1 := ⟨d - 1, by omega⟩
  refine ev_of (M := M68) zin_68 rfl (by decide) rfl (Nat.le_of_ble_eq_true rfl) (Or.inr ⟨o0, _, rfl, ho0⟩) hT ?_
  show sp _ (PP (Ev d) M68 (KR cvI) (0, [(0, .ref o0), (1, .int p1), (2, .int p2), (3, .int p3)], [], w))
  unfold sh_68
  refine s_aload rfl rfl ?_
  refine s_getD rfl hT ho0 (by decide) rfl (fun a1 ha1 => ?_)
  refine s_iload rfl rfl ?_
  refine s_callZ [.ref a1, .int p1] [] rfl rfl (Nat.le_of_ble_eq_true rfl) (ev_69 (d := d) (by omega) hT ha1) (fun r3 w2 hT2 => ?_)
  refine sp_ite (fun h4 => ?_) (fun h4 => ?_)
  · refine s_if0 rfl (zb_eq0 h4) ?_
    refine s_aload rfl rfl ?_
    refine s_getD rfl hT2 ho0 (by decide) rfl (fun a5 ha5 => ?_)
    refine s_iload rfl rfl ?_
    refine s_callZ [.ref a5, .int p2] [] rfl rfl (Nat.le_of_ble_eq_true rfl) (ev_67 (d := d) (by omega) hT2 ha5) (fun r7 w6 hT6 => ?_)
    refine sp_ite (fun h8 => ?_) (fun h8 => ?_)
    · refine s_if0 rfl (zb_eq0 h8) ?_
      refine s_aload rfl rfl ?_
      refine s_getD rfl hT6 ho0 (by decide) rfl (fun a9 ha9 => ?_)
      refine s_iload rfl rfl ?_
      refine s_callZ [.ref a9, .int p3] [] rfl rfl (Nat.le_of_ble_eq_true rfl) (ev_69 (d := d) (by omega) hT6 ha9) (fun r11 w10 hT10 => ?_)
      refine sp_ite (fun h12 => ?_) (fun h12 => ?_)
      · refine s_if1 rfl (zb_ne1 h12) ?_
        refine s_aload rfl rfl ?_
        refine s_callV [.ref o0] [] rfl rfl (Nat.le_of_ble_eq_true rfl) (ev_70 (d := d) (by omega) hT10 ho0) (fun _ w13 hT13 => ?_)
        refine s_aload rfl rfl ?_
        refine s_getF rfl hT13 ho0 rfl ?_
        refine s_aload rfl rfl ?_
        refine s_getD rfl hT13 ho0 (by decide) rfl (fun a15 ha15 => ?_)
        refine s_iload rfl rfl ?_
        refine s_iload rfl rfl ?_
        refine s_aload rfl rfl ?_
        refine s_getD rfl hT13 ho0 (by decide) rfl (fun a16 ha16 => ?_)
        refine s_iload rfl rfl ?_
        refine s_callI [.ref a16, .int p3] [.int p2, .int p1, .ref a15, .ref (o0 + 35)] rfl rfl (Nat.le_of_ble_eq_true rfl) (ev_73 (d := d) (by omega) hT13 ha16) (fun r18 w17 hT17 => ?_)
        refine s_callV [.ref (o0 + 35), .ref a15, .int p1, .int p2, .int r18] [] rfl rfl (Nat.le_of_ble_eq_true rfl) (ev_74 (d := d) (by omega) hT17 (of_9_6 ho0) ha15) (fun _ w19 hT19 => ?_)
        refine s_aload rfl rfl ?_
        refine s_getD rfl hT19 ho0 (by decide) rfl (fun a21 ha21 => ?_)
        refine s_iload rfl rfl ?_
        refine s_callI [.ref a21, .int p2] [] rfl rfl (Nat.le_of_ble_eq_true rfl) (ev_66 (d := d) (by omega) hT19 ha21) (fun r23 w22 hT22 => ?_)
        exact s_retI rfl rfl hT22 (fun _ _ h => h)
      · refine s_if0 rfl (zb_ne0 h12) ?_
        refine s_const rfl ?_
        exact s_retI rfl rfl hT10 (fun _ _ h => h)
    · refine s_if1 rfl (zb_eq1 h8) ?_
      refine s_const rfl ?_
      exact s_retI rfl rfl hT6 (fun _ _ h => h)
  · refine s_if1 rfl (zb_eq1 h4) ?_
    refine s_const rfl ?_
    exact s_retI rfl rfl hT2 (fun _ _ h => h)
/-- RugReader$House.fadeDays()I -/
def sh_82 (o0 : Nat) (w : Wd) : Option (Int32 × Wd) := lt (if wI w o0 2 = 0 then 9 else (wI w o0 2) : Int32) (fun z1 => some (z1, w))
set_option maxRecDepth 20000 in
set_option maxHeartbeats 4000000 in
theorem ev_82 {d : Nat} (hd : 1 ≤ d) {o0 : Nat} {w : Wd} (hT : TY w) (ho0 : ist o0 1) : sp (sh_82 o0 w) (fun r w' => TY w' ∧ Ev d 82 [.ref o0] w (cvI r) w') := by
  obtain ⟨d, rfl⟩ : ∃ d', d = d' + 1 := ⟨d - 1, by omega⟩
  refine ev_of (M := M82) zin_82 rfl (by decide) rfl (Nat.le_of_ble_eq_true rfl) (Or.inr ⟨o0, _, rfl, ho0⟩) hT ?_
  show sp _ (PP (Ev d) M82 (KR cvI) (0, [(0, .ref o0)], [], w))
  unfold sh_82
  refine s_aload rfl rfl ?_
  refine s_getI rfl hT ho0 ?_
  refine sp_lt (fun z1 hz1 => ?_)
  refine s_dia (16, [(0, .ref o0)], [.int z1], w) ?_ (fun hk2 => ?_)
  · exact s_retI rfl rfl hT (fun _ _ h => h)
  · by_cases h3 : wI w o0 2 = 0
    · refine s_if0 rfl (zc_ne0 h3) ?_
      refine s_const rfl ?_
      refine s_goto rfl ?_
      refine s_cong ?_ hk2
      (rw [hz1, if_pos h3])
    · refine s_if1 rfl (zc_ne1 h3) ?_
      refine s_aload rfl rfl ?_
      refine s_getI rfl hT ho0 ?_
      refine s_cong ?_ hk2
      (rw [hz1, if_neg h3])
/-- RugReader$Rug.letDayGo(I)V -/
def sh_83 (o0 : Nat) (p1 : Int32) (w : Wd) : Option (Unit × Wd) := stI w o0 0 ((wI w o0 0) + 1) (fun w1 => cl (sh_76 ((wI w1 o0 0) - p1) w1) (fun r3 w2 => itM (fun (v3_4 : Int32) (w6 : Wd) => if v3_4 < 144 then (itM (fun (v4_8 : Int32) (w10 : Wd) => if v4_8 < 6 then (cl (sh_78 r3 v3_4 v4_8 w10) (fun r13 w12 => gd (ib r13 7776) (stI w12 (o0 + 1) (ix r13) 0 (fun w14 => lt (v4_8 + 1 : Int32) (fun v4_15 => some (.inl v4_15, w14)))))) else (gd (ib ((r3 * 144) + v3_4) 1296) (stI w10 (o0 + 2) (ix ((r3 * 144) + v3_4)) 0 (fun w16 => gd (ib v3_4 144) (if p1 ≤ (wI w16 o0 0) - (wI w16 (o0 + 6) (ix v3_4)) then (gd (ib v3_4 144) (stI w16 (o0 + 3) (ix v3_4) (-1) (fun w18 => lt (v3_4 + 1 : Int32) (fun v3_19 => some (.inr (.inl v3_19), w18))))) else (lt (v3_4 + 1 : Int32) (fun v3_20 => some (.inr (.inl v3_20), w16)))))))) FU 0 w6) else (some (.inr (()), w6))) FU 0 w2))
set_option maxRecDepth 20000 in
set_option maxHeartbeats 4000000 in
theorem ev_83 {d : Nat} (hd : 3 ≤ d) {o0 : Nat} {p1 : Int32} {w : Wd} (hT : TY w) (ho0 : ist o0 5) : sp (sh_83 o0 p1 w) (fun r w' => TY w' ∧ Ev d 83 [.ref o0, .int p1] w (cvV r) w') := by
  obtain ⟨d, rfl⟩ : ∃ d', d = d' + 1 := ⟨d - 1, by omega⟩
  refine ev_of (M := M83) zin_83 rfl (by decide) rfl (Nat.le_of_ble_eq_true rfl) (Or.inr ⟨o0, _, rfl, ho0⟩) hT ?_
  show sp _ (PP (Ev d) M83 (KR cvV) (0, [(0, .ref o0), (1, .int p1)], [], w))
  unfold sh_83
  refine s_aload rfl rfl ?_
  refine s_dup rfl rfl ?_
  refine s_getI rfl hT ho0 ?_
  refine s_const rfl ?_
  refine s_bin rfl rfl ?_
  refine s_putI rfl hT ho0 rfl (fun w1 hT1 => ?_)
  refine s_aload rfl rfl ?_
  refine s_getI rfl hT1 ho0 ?_
  refine s_iload rfl rfl ?_
  refine s_bin rfl rfl ?_
  refine s_callI [.int ((wI w1 o0 0) - p1)] [] rfl rfl (Nat.le_of_ble_eq_true rfl) (ev_76 (d := d) (by omega) hT1 ) (fun r3 w2 hT2 => ?_)
  refine s_istoreF [(0, .ref o0), (1, .int p1), (2, .int r3)] rfl (subl_c rfl (subl_c rfl (subl_c rfl (subl_n)))) ?_
  refine s_const rfl ?_
  refine s_istoreF [(0, .ref o0), (1, .int p1), (2, .int r3), (3, .int 0)] rfl (subl_c rfl (subl_c rfl (subl_c rfl (subl_c rfl (subl_n))))) ?_
  let lvL5 : Int32 → List (Nat × Value) := fun s22 => [(0, .ref o0), (1, .int p1), (2, .int r3), (3, .int s22)]
  refine s_loop lvL5 (subl_c rfl (subl_c rfl (subl_c rfl (subl_c rfl (subl_n))))) hT2 (fun v3_4 w6 hT6 => ?_)
  show sp _ (PP _ _ _ (22, [(0, .ref o0), (1, .int p1), (2, .int r3), (3, .int v3_4)], [], w6))
  refine s_iload rfl rfl ?_
  refine s_const rfl ?_
  refine sp_ite (fun h7 => ?_) (fun h7 => ?_)
  · refine s_ic0 rfl (zc_ge0 h7) ?_
    refine s_const rfl ?_
    refine s_istoreF [(0, .ref o0), (1, .int p1), (2, .int r3), (3, .int v3_4), (4, .int 0)] rfl (subl_c rfl (subl_c rfl (subl_c rfl (subl_c rfl (subl_c rfl (subl_n)))))) ?_
    let lvL9 : Int32 → List (Nat × Value) := fun s21 => [(0, .ref o0), (1, .int p1), (2, .int r3), (3, .int v3_4), (4, .int s21)]
    refine s_loop lvL9 (subl_c rfl (subl_c rfl (subl_c rfl (subl_c rfl (subl_c rfl (subl_n)))))) hT6 (fun v4_8 w10 hT10 => ?_)
    show sp _ (PP _ _ _ (32, [(0, .ref o0), (1, .int p1), (2, .int r3), (3, .int v3_4), (4, .int v4_8)], [], w10))
    refine s_iload rfl rfl ?_
    refine s_const rfl ?_
    refine sp_ite (fun h11 => ?_) (fun h11 => ?_)
    · refine s_ic0 rfl (zc_ge0 h11) ?_
      refine s_aload rfl rfl ?_
      refine s_getF rfl hT10 ho0 rfl ?_
      refine s_iload rfl rfl ?_
      refine s_iload rfl rfl ?_
      refine s_iload rfl rfl ?_
      refine s_callI [.int r3, .int v3_4, .int v4_8] [.ref (o0 + 1)] rfl rfl (Nat.le_of_ble_eq_true rfl) (ev_78 (d := d) (by omega) hT10 ) (fun r13 w12 hT12 => ?_)
      refine s_const rfl ?_
      refine s_iast rfl hT12 (of_5_1 ho0) (fun w14 hT14 => ?_)
      refine s_iincF (fun v4_15 => [(0, .ref o0), (1, .int p1), (2, .int r3), (3, .int v3_4), (4, .int v4_15)]) rfl rfl (fun _ => subl_c rfl (subl_c rfl (subl_c rfl (subl_c rfl (subl_c rfl (subl_n)))))) (fun v4_15 => ?_)
      refine s_goto rfl ?_
      exact s_back (lvL := lvL9) (s' := v4_15) (subl_c rfl (subl_c rfl (subl_c rfl (subl_c rfl (subl_c rfl (subl_n)))))) hT14 (fun _ _ h => h)
    · refine s_ic1 rfl (zc_ge1 h11) ?_
      refine s_aload rfl rfl ?_
      refine s_getF rfl hT10 ho0 rfl ?_
      refine s_iload rfl rfl ?_
      refine s_const rfl ?_
      refine s_bin rfl rfl ?_
      refine s_iload rfl rfl ?_
      refine s_bin rfl rfl ?_
      refine s_const rfl ?_
      refine s_iast rfl hT10 (of_5_2 ho0) (fun w16 hT16 => ?_)
      refine s_aload rfl rfl ?_
      refine s_getI rfl hT16 ho0 ?_
      refine s_aload rfl rfl ?_
      refine s_getF rfl hT16 ho0 rfl ?_
      refine s_iload rfl rfl ?_
      refine s_iald rfl hT16 (of_5_6 ho0) ?_
      refine s_bin rfl rfl ?_
      refine s_iload rfl rfl ?_
      refine sp_ite (fun h17 => ?_) (fun h17 => ?_)
      · refine s_ic0 rfl (zc_lt0 h17) ?_
        refine s_aload rfl rfl ?_
        refine s_getF rfl hT16 ho0 rfl ?_
        refine s_iload rfl rfl ?_
        refine s_const rfl ?_
        refine s_iast rfl hT16 (of_5_3 ho0) (fun w18 hT18 => ?_)
        refine s_iincF (fun v3_19 => [(0, .ref o0), (1, .int p1), (2, .int r3), (3, .int v3_19)]) rfl rfl (fun _ => subl_c rfl (subl_c rfl (subl_c rfl (subl_c rfl (subl_n))))) (fun v3_19 => ?_)
        refine s_goto rfl ?_
        exact s_back (lvL := lvL5) (s' := v3_19) (subl_c rfl (subl_c rfl (subl_c rfl (subl_c rfl (subl_n))))) hT18 (fun _ _ h => h)
      · refine s_ic1 rfl (zc_lt1 h17) ?_
        refine s_iincF (fun v3_20 => [(0, .ref o0), (1, .int p1), (2, .int r3), (3, .int v3_20)]) rfl rfl (fun _ => subl_c rfl (subl_c rfl (subl_c rfl (subl_c rfl (subl_n))))) (fun v3_20 => ?_)
        refine s_goto rfl ?_
        exact s_back (lvL := lvL5) (s' := v3_20) (subl_c rfl (subl_c rfl (subl_c rfl (subl_c rfl (subl_n))))) hT16 (fun _ _ h => h)
  · refine s_ic1 rfl (zc_ge1 h7) ?_
    exact s_retV rfl rfl hT6 (fun _ _ h => h)
/-- RugReader.days(I)I -/
def sh_81 (o0 : Nat) (p1 : Int32) (w : Wd) : Option (Int32 × Wd) := if 1 ≤ p1 then (if p1 ≤ 20 then (if 999 - p1 < wI w (o0 + 35) 0 then (some ((-1), w)) else (cl (sh_70 o0 w) (fun _ w4 => itM (fun (v2_6 : Int32) (w8 : Wd) => if v2_6 < p1 then (der (wR w8 o0 2) (fun a10 => cl (sh_82 a10 w8) (fun r12 w11 => cl (sh_83 (o0 + 35) r12 w11) (fun _ w13 => lt (v2_6 + 1 : Int32) (fun v2_15 => some (.inl v2_15, w13)))))) else (some (.inr (wI w8 (o0 + 35) 0), w8))) FU 0 w4))) else (some ((-1), w))) else (some ((-1), w))
set_option maxRecDepth 20000 in
set_option maxHeartbeats 4000000 in
theorem ev_81 {d : Nat} (hd : 4 ≤ d) {o0 : Nat} {p1 : Int32} {w : Wd} (hT : TY w) (ho0 : ist o0 9) : sp (sh_81 o0 p1 w) (fun r w' => TY w' ∧ Ev d 81 [.ref o0, .int p1] w (cvI r) w') := by
  obtain ⟨d, rfl⟩ : ∃ d', d = d' + 1 := ⟨d - 1, by omega⟩
  refine ev_of (M := M81) zin_81 rfl (by decide) rfl (Nat.le_of_ble_eq_true rfl) (Or.inr ⟨o0, _, rfl, ho0⟩) hT ?_
  show sp _ (PP (Ev d) M81 (KR cvI) (0, [(0, .ref o0), (1, .int p1)], [], w))
  unfold sh_81
  refine s_iload rfl rfl ?_
  refine s_const rfl ?_
  refine sp_ite (fun h1 => ?_) (fun h1 => ?_)
  · refine s_ic0 rfl (zc_lt0 h1) ?_
    refine s_iload rfl rfl ?_
    refine s_const rfl ?_
    refine sp_ite (fun h2 => ?_) (fun h2 => ?_)
    · refine s_ic0 rfl (zc_gt0 h2) ?_
      refine s_aload rfl rfl ?_
      refine s_getF rfl hT ho0 rfl ?_
      refine s_getI rfl hT (of_9_6 ho0) ?_
      refine s_const rfl ?_
      refine s_iload rfl rfl ?_
      refine s_bin rfl rfl ?_
      refine sp_ite (fun h3 => ?_) (fun h3 => ?_)
      · refine s_ic0 rfl (zc_le0 h3) ?_
        refine s_const rfl ?_
        exact s_retI rfl rfl hT (fun _ _ h => h)
      · refine s_ic1 rfl (zc_le1 h3) ?_
        refine s_aload rfl rfl ?_
        refine s_callV [.ref o0] [] rfl rfl (Nat.le_of_ble_eq_true rfl) (ev_70 (d := d) (by omega) hT ho0) (fun _ w4 hT4 => ?_)
        refine s_const rfl ?_
        refine s_istoreF [(0, .ref o0), (1, .int p1), (2, .int 0)] rfl (subl_c rfl (subl_c rfl (subl_c rfl (subl_n)))) ?_
        let lvL7 : Int32 → List (Nat × Value) := fun s16 => [(0, .ref o0), (1, .int p1), (2, .int s16)]
        refine s_loop lvL7 (subl_c rfl (subl_c rfl (subl_c rfl (subl_n)))) hT4 (fun v2_6 w8 hT8 => ?_)
        show sp _ (PP _ _ _ (34, [(0, .ref o0), (1, .int p1), (2, .int v2_6)], [], w8))
        refine s_iload rfl rfl ?_
        refine s_iload rfl rfl ?_
        refine sp_ite (fun h9 => ?_) (fun h9 => ?_)
        · refine s_ic0 rfl (zc_ge0 h9) ?_
          refine s_aload rfl rfl ?_
          refine s_getF rfl hT8 ho0 rfl ?_
          refine s_aload rfl rfl ?_
          refine s_getD rfl hT8 ho0 (by decide) rfl (fun a10 ha10 => ?_)
          refine s_callI [.ref a10] [.ref (o0 + 35)] rfl rfl (Nat.le_of_ble_eq_true rfl) (ev_82 (d := d) (by omega) hT8 ha10) (fun r12 w11 hT11 => ?_)
          refine s_callV [.ref (o0 + 35), .int r12] [] rfl rfl (Nat.le_of_ble_eq_true rfl) (ev_83 (d := d) (by omega) hT11 (of_9_6 ho0)) (fun _ w13 hT13 => ?_)
          refine s_iincF (fun v2_15 => [(0, .ref o0), (1, .int p1), (2, .int v2_15)]) rfl rfl (fun _ => subl_c rfl (subl_c rfl (subl_c rfl (subl_n)))) (fun v2_15 => ?_)
          refine s_goto rfl ?_
          exact s_back (lvL := lvL7) (s' := v2_15) (subl_c rfl (subl_c rfl (subl_c rfl (subl_n)))) hT13 (fun _ _ h => h)
        · refine s_ic1 rfl (zc_ge1 h9) ?_
          refine s_aload rfl rfl ?_
          refine s_getF rfl hT8 ho0 rfl ?_
          refine s_getI rfl hT8 (of_9_6 ho0) ?_
          exact s_retI rfl rfl hT8 (fun _ _ h => h)
    · refine s_ic1 rfl (zc_gt1 h2) ?_
      refine s_const rfl ?_
      exact s_retI rfl rfl hT (fun _ _ h => h)
  · refine s_ic1 rfl (zc_lt1 h1) ?_
    refine s_const rfl ?_
    exact s_retI rfl rfl hT (fun _ _ h => h)
/-- java/lang/Math.max(II)I -/
def sh_85 (p0 : Int32) (p1 : Int32) (w : Wd) : Option (Int32 × Wd) := lt (if p1 ≤ p0 then p0 else p1 : Int32) (fun z1 => some (z1, w))
set_option maxRecDepth 20000 in
set_option maxHeartbeats 4000000 in
theorem ev_85 {d : Nat} (hd : 1 ≤ d) {p0 : Int32} {p1 : Int32} {w : Wd} (hT : TY w)  : sp (sh_85 p0 p1 w) (fun r w' => TY w' ∧ Ev d 85 [.int p0, .int p1] w (cvI r) w') := by
  obtain ⟨d, rfl⟩ : ∃ d', d = d' + 1 := ⟨d - 1, by omega⟩
  refine ev_of (M := M85) zin_85 rfl (by decide) rfl (Nat.le_of_ble_eq_true rfl) (Or.inl rfl) hT ?_
  show sp _ (PP (Ev d) M85 (KR cvI) (0, [(0, .int p0), (1, .int p1)], [], w))
  unfold sh_85
  refine s_iload rfl rfl ?_
  refine s_iload rfl rfl ?_
  refine sp_lt (fun z1 hz1 => ?_)
  refine s_dia (10, [(0, .int p0), (1, .int p1)], [.int z1], w) ?_ (fun hk2 => ?_)
  · exact s_retI rfl rfl hT (fun _ _ h => h)
  · by_cases h3 : p1 ≤ p0
    · refine s_ic0 rfl (zc_lt0 h3) ?_
      refine s_iload rfl rfl ?_
      refine s_goto rfl ?_
      refine s_cong ?_ hk2
      (rw [hz1, if_pos h3])
    · refine s_ic1 rfl (zc_lt1 h3) ?_
      refine s_iload rfl rfl ?_
      refine s_cong ?_ hk2
      (rw [hz1, if_neg h3])
/-- RugReader$Rug.lies(I)Z -/
def sh_87 (o0 : Nat) (p1 : Int32) (w : Wd) : Option (Bool × Wd) := cl (sh_77 p1 w) (fun r2 w1 => if r2 = true then (gd (ib p1 144) (if wI w1 (o0 + 3) (ix p1) = (-1) then (some (false, w1)) else (some (true, w1)))) else (some (false, w1)))
set_option maxRecDepth 20000 in
set_option maxHeartbeats 4000000 in
theorem ev_87 {d : Nat} (hd : 2 ≤ d) {o0 : Nat} {p1 : Int32} {w : Wd} (hT : TY w) (ho0 : ist o0 5) : sp (sh_87 o0 p1 w) (fun r w' => TY w' ∧ Ev d 87 [.ref o0, .int p1] w (cvZ r) w') := by
  obtain ⟨d, rfl⟩ : ∃ d', d = d' + 1 := ⟨d - 1, by omega⟩
  refine ev_of (M := M87) zin_87 rfl (by decide) rfl (Nat.le_of_ble_eq_true rfl) (Or.inr ⟨o0, _, rfl, ho0⟩) hT ?_
  show sp _ (PP (Ev d) M87 (KR cvZ) (0, [(0, .ref o0), (1, .int p1)], [], w))
  unfold sh_87
  refine s_iload rfl rfl ?_
  refine s_callZ [.int p1] [] rfl rfl (Nat.le_of_ble_eq_true rfl) (ev_77 (d := d) (by omega) hT ) (fun r2 w1 hT1 => ?_)
  refine sp_ite (fun h3 => ?_) (fun h3 => ?_)
  · refine s_if0 rfl (zb_eq0 h3) ?_
    refine s_aload rfl rfl ?_
    refine s_getF rfl hT1 ho0 rfl ?_
    refine s_iload rfl rfl ?_
    refine s_iald rfl hT1 (of_5_3 ho0) ?_
    refine s_const rfl ?_
    refine sp_ite (fun h4 => ?_) (fun h4 => ?_)
    · refine s_ic1 rfl (zc_eq1 h4) ?_
      refine s_const rfl ?_
      exact s_retZ (z := false) rfl rfl hT1 (fun _ _ h => h)
    · refine s_ic0 rfl (zc_eq0 h4) ?_
      refine s_const rfl ?_
      refine s_goto rfl ?_
      exact s_retZ (z := true) rfl rfl hT1 (fun _ _ h => h)
  · refine s_if1 rfl (zb_eq1 h3) ?_
    refine s_const rfl ?_
    exact s_retZ (z := false) rfl rfl hT1 (fun _ _ h => h)
/-- RugReader$House.weightOf(I)I -/
def sh_89 (o0 : Nat) (p1 : Int32) (w : Wd) : Option (Int32 × Wd) := cl (sh_69 o0 p1 w) (fun r2 w1 => if r2 = true then (gd (ib p1 6) (some (wI w1 (o0 + 1) (ix p1), w1))) else (some (0, w1)))
set_option maxRecDepth 20000 in
set_option maxHeartbeats 4000000 in
theorem ev_89 {d : Nat} (hd : 2 ≤ d) {o0 : Nat} {p1 : Int32} {w : Wd} (hT : TY w) (ho0 : ist o0 1) : sp (sh_89 o0 p1 w) (fun r w' => TY w' ∧ Ev d 89 [.ref o0, .int p1] w (cvI r) w') := by
  obtain ⟨d, rfl⟩ : ∃ d', d = d' + 1 := ⟨d - 1, by omega⟩
  refine ev_of (M := M89) zin_89 rfl (by decide) rfl (Nat.le_of_ble_eq_true rfl) (Or.inr ⟨o0, _, rfl, ho0⟩) hT ?_
  show sp _ (PP (Ev d) M89 (KR cvI) (0, [(0, .ref o0), (1, .int p1)], [], w))
  unfold sh_89
  refine s_aload rfl rfl ?_
  refine s_iload rfl rfl ?_
  refine s_callZ [.ref o0, .int p1] [] rfl rfl (Nat.le_of_ble_eq_true rfl) (ev_69 (d := d) (by omega) hT ho0) (fun r2 w1 hT1 => ?_)
  refine sp_ite (fun h3 => ?_) (fun h3 => ?_)
  · refine s_if0 rfl (zb_eq0 h3) ?_
    refine s_aload rfl rfl ?_
    refine s_getF rfl hT1 ho0 rfl ?_
    refine s_iload rfl rfl ?_
    refine s_iald rfl hT1 (of_1_7 ho0) ?_
    refine s_goto rfl ?_
    exact s_retI rfl rfl hT1 (fun _ _ h => h)
  · refine s_if1 rfl (zb_eq1 h3) ?_
    refine s_const rfl ?_
    exact s_retI rfl rfl hT1 (fun _ _ h => h)
/-- RugReader$Rug.weightOn(LRugReader$House;II)I -/
def sh_88 (o0 : Nat) (o1 : Nat) (p2 : Int32) (p3 : Int32) (w : Wd) : Option (Int32 × Wd) := itM (fun (s12 : Int32 × Int32) (w4 : Wd) => match s12 with | (v4_1, v5_2) => if v5_2 < 6 then (cl (sh_78 p2 p3 v5_2 w4) (fun r7 w6 => gd (ib r7 7776) (cl (sh_89 o1 v5_2 w6) (fun r9 w8 => lt (v4_1 + ((wI w6 (o0 + 1) (ix r7)) * r9) : Int32) (fun v4_10 => lt (v5_2 + 1 : Int32) (fun v5_11 => some (.inl (v4_10, v5_11), w8))))))) else (some (.inr (v4_1), w4))) FU (0, 0) w
set_option maxRecDepth 20000 in
set_option maxHeartbeats 4000000 in
theorem ev_88 {d : Nat} (hd : 3 ≤ d) {o0 : Nat} {o1 : Nat} {p2 : Int32} {p3 : Int32} {w : Wd} (hT : TY w) (ho0 : ist o0 5) (ho1 : ist o1 1) : sp (sh_88 o0 o1 p2 p3 w) (fun r w' => TY w' ∧ Ev d 88 [.ref o0, .ref o1, .int p2, .int p3] w (cvI r) w') := by
  obtain ⟨d, rfl⟩ : ∃ d', d = d' + 1 := ⟨d - 1, by omega⟩
  refine ev_of (M := M88) zin_88 rfl (by decide) rfl (Nat.le_of_ble_eq_true rfl) (Or.inr ⟨o0, _, rfl, ho0⟩) hT ?_
  show sp _ (PP (Ev d) M88 (KR cvI) (0, [(0, .ref o0), (1, .ref o1), (2, .int p2), (3, .int p3)], [], w))
  unfold sh_88
  refine s_const rfl ?_
  refine s_istoreF [(0, .ref o0), (1, .ref o1), (2, .int p2), (3, .int p3), (4, .int 0)] rfl (subl_c rfl (subl_c rfl (subl_c rfl (subl_c rfl (subl_c rfl (subl_n)))))) ?_
  refine s_const rfl ?_
  refine s_istoreF [(0, .ref o0), (1, .ref o1), (2, .int p2), (3, .int p3), (4, .int 0), (5, .int 0)] rfl (subl_c rfl (subl_c rfl (subl_c rfl (subl_c rfl (subl_c rfl (subl_c rfl (subl_n))))))) ?_
  let lvL3 : Int32 × Int32 → List (Nat × Value) := fun s12 => [(0, .ref o0), (1, .ref o1), (2, .int p2), (3, .int p3), (4, .int (s12.1)), (5, .int (s12.2))]
  refine s_loop lvL3 (subl_c rfl (subl_c rfl (subl_c rfl (subl_c rfl (subl_c rfl (subl_c rfl (subl_n))))))) hT (fun s12 w4 hT4 => ?_)
  obtain ⟨v4_1, v5_2⟩ := s12
  show sp _ (PP _ _ _ (6, [(0, .ref o0), (1, .ref o1), (2, .int p2), (3, .int p3), (4, .int v4_1), (5, .int v5_2)], [], w4))
  refine s_iload rfl rfl ?_
  refine s_const rfl ?_
  refine sp_ite (fun h5 => ?_) (fun h5 => ?_)
  · refine s_ic0 rfl (zc_ge0 h5) ?_
    refine s_iload rfl rfl ?_
    refine s_aload rfl rfl ?_
    refine s_getF rfl hT4 ho0 rfl ?_
    refine s_iload rfl rfl ?_
    refine s_iload rfl rfl ?_
    refine s_iload rfl rfl ?_
    refine s_callI [.int p2, .int p3, .int v5_2] [.ref (o0 + 1), .int v4_1] rfl rfl (Nat.le_of_ble_eq_true rfl) (ev_78 (d := d) (by omega) hT4 ) (fun r7 w6 hT6 => ?_)
    refine s_iald rfl hT6 (of_5_1 ho0) ?_
    refine s_aload rfl rfl ?_
    refine s_iload rfl rfl ?_
    refine s_callI [.ref o1, .int v5_2] [.int (wI w6 (o0 + 1) (ix r7)), .int v4_1] rfl rfl (Nat.le_of_ble_eq_true rfl) (ev_89 (d := d) (by omega) hT6 ho1) (fun r9 w8 hT8 => ?_)
    refine s_bin rfl rfl ?_
    refine s_bin rfl rfl ?_
    refine s_nmI (fun v4_10 => ?_)
    refine s_istoreF [(0, .ref o0), (1, .ref o1), (2, .int p2), (3, .int p3), (4, .int v4_10), (5, .int v5_2)] rfl (subl_c rfl (subl_c rfl (subl_c rfl (subl_c rfl (subl_c rfl (subl_c rfl (subl_n))))))) ?_
    refine s_iincF (fun v5_11 => [(0, .ref o0), (1, .ref o1), (2, .int p2), (3, .int p3), (4, .int v4_10), (5, .int v5_11)]) rfl rfl (fun _ => subl_c rfl (subl_c rfl (subl_c rfl (subl_c rfl (subl_c rfl (subl_c rfl (subl_n))))))) (fun v5_11 => ?_)
    refine s_goto rfl ?_
    exact s_back (lvL := lvL3) (s' := (v4_10, v5_11)) (subl_c rfl (subl_c rfl (subl_c rfl (subl_c rfl (subl_c rfl (subl_c rfl (subl_n))))))) hT8 (fun _ _ h => h)
  · refine s_ic1 rfl (zc_ge1 h5) ?_
    refine s_iload rfl rfl ?_
    exact s_retI rfl rfl hT4 (fun _ _ h => h)
/-- RugReader$Rug.beatOne(LRugReader$House;I)Z -/
def sh_86 (o0 : Nat) (o1 : Nat) (p2 : Int32) (w : Wd) : Option (Bool × Wd) := cl (sh_87 o0 p2 w) (fun r2 w1 => if r2 = true then (itM (fun (v3_4 : Int32) (w6 : Wd) => if v3_4 < 9 then (gd (ib ((v3_4 * 144) + p2) 1296) (cl (sh_88 o0 o1 v3_4 p2 w6) (fun r9 w8 => gd (ib ((v3_4 * 144) + p2) 1296) (stI w8 (o0 + 2) (ix ((v3_4 * 144) + p2)) ((wI w6 (o0 + 2) (ix ((v3_4 * 144) + p2))) + r9) (fun w10 => itM (fun (v4_11 : Int32) (w13 : Wd) => if v4_11 < 6 then (cl (sh_78 v3_4 p2 v4_11 w13) (fun r16 w15 => gd (ib r16 7776) (stI w15 (o0 + 1) (ix r16) 0 (fun w17 => lt (v4_11 + 1 : Int32) (fun v4_18 => some (.inl v4_18, w17)))))) else (lt (v3_4 + 1 : Int32) (fun v3_19 => some (.inr (.inl v3_19), w13)))) FU 0 w10))))) else (gd (ib p2 144) (stI w6 (o0 + 3) (ix p2) (-1) (fun w21 => some (.inr (true), w21))))) FU 0 w1) else (some (false, w1)))
set_option maxRecDepth 20000 in
set_option maxHeartbeats 4000000 in
theorem ev_86 {d : Nat} (hd : 4 ≤ d) {o0 : Nat} {o1 : Nat} {p2 : Int32} {w : Wd} (hT : TY w) (ho0 : ist o0 5) (ho1 : ist o1 1) : sp (sh_86 o0 o1 p2 w) (fun r w' => TY w' ∧ Ev d 86 [.ref o0, .ref o1, .int p2] w (cvZ r) w') := by
  obtain ⟨d, rfl⟩ : ∃ d', d = d' + 1 := ⟨d - 1, by omega⟩
  refine ev_of (M := M86) zin_86 rfl (by decide) rfl (Nat.le_of_ble_eq_true rfl) (Or.inr ⟨o0, _, rfl, ho0⟩) hT ?_
  show sp _ (PP (Ev d) M86 (KR cvZ) (0, [(0, .ref o0), (1, .ref o1), (2, .int p2)], [], w))
  unfold sh_86
  refine s_aload rfl rfl ?_
  refine s_iload rfl rfl ?_
  refine s_callZ [.ref o0, .int p2] [] rfl rfl (Nat.le_of_ble_eq_true rfl) (ev_87 (d := d) (by omega) hT ho0) (fun r2 w1 hT1 => ?_)
  refine sp_ite (fun h3 => ?_) (fun h3 => ?_)
  · refine s_if1 rfl (zb_ne1 h3) ?_
    refine s_const rfl ?_
    refine s_istoreF [(0, .ref o0), (1, .ref o1), (2, .int p2), (3, .int 0)] rfl (subl_c rfl (subl_c rfl (subl_c rfl (subl_c rfl (subl_n))))) ?_
    let lvL5 : Int32 → List (Nat × Value) := fun s22 => [(0, .ref o0), (1, .ref o1), (2, .int p2), (3, .int s22)]
    refine s_loop lvL5 (subl_c rfl (subl_c rfl (subl_c rfl (subl_c rfl (subl_n))))) hT1 (fun v3_4 w6 hT6 => ?_)
    show sp _ (PP _ _ _ (12, [(0, .ref o0), (1, .ref o1), (2, .int p2), (3, .int v3_4)], [], w6))
    refine s_iload rfl rfl ?_
    refine s_const rfl ?_
    refine sp_ite (fun h7 => ?_) (fun h7 => ?_)
    · refine s_ic0 rfl (zc_ge0 h7) ?_
      refine s_aload rfl rfl ?_
      refine s_getF rfl hT6 ho0 rfl ?_
      refine s_iload rfl rfl ?_
      refine s_const rfl ?_
      refine s_bin rfl rfl ?_
      refine s_iload rfl rfl ?_
      refine s_bin rfl rfl ?_
      refine s_dup2 rfl ⟨rfl, rfl⟩ ?_
      refine s_iald rfl hT6 (of_5_2 ho0) ?_
      refine s_aload rfl rfl ?_
      refine s_aload rfl rfl ?_
      refine s_iload rfl rfl ?_
      refine s_iload rfl rfl ?_
      refine s_callI [.ref o0, .ref o1, .int v3_4, .int p2] [.int (wI w6 (o0 + 2) (ix ((v3_4 * 144) + p2))), .int ((v3_4 * 144) + p2), .ref (o0 + 2)] rfl rfl (Nat.le_of_ble_eq_true rfl) (ev_88 (d := d) (by omega) hT6 ho0 ho1) (fun r9 w8 hT8 => ?_)
      refine s_bin rfl rfl ?_
      refine s_iast rfl hT8 (of_5_2 ho0) (fun w10 hT10 => ?_)
      refine s_const rfl ?_
      refine s_istoreF [(0, .ref o0), (1, .ref o1), (2, .int p2), (3, .int v3_4), (4, .int 0)] rfl (subl_c rfl (subl_c rfl (subl_c rfl (subl_c rfl (subl_c rfl (subl_n)))))) ?_
      let lvL12 : Int32 → List (Nat × Value) := fun s20 => [(0, .ref o0), (1, .ref o1), (2, .int p2), (3, .int v3_4), (4, .int s20)]
      refine s_loop lvL12 (subl_c rfl (subl_c rfl (subl_c rfl (subl_c rfl (subl_c rfl (subl_n)))))) hT10 (fun v4_11 w13 hT13 => ?_)
      show sp _ (PP _ _ _ (43, [(0, .ref o0), (1, .ref o1), (2, .int p2), (3, .int v3_4), (4, .int v4_11)], [], w13))
      refine s_iload rfl rfl ?_
      refine s_const rfl ?_
      refine sp_ite (fun h14 => ?_) (fun h14 => ?_)
      · refine s_ic0 rfl (zc_ge0 h14) ?_
        refine s_aload rfl rfl ?_
        refine s_getF rfl hT13 ho0 rfl ?_
        refine s_iload rfl rfl ?_
        refine s_iload rfl rfl ?_
        refine s_iload rfl rfl ?_
        refine s_callI [.int v3_4, .int p2, .int v4_11] [.ref (o0 + 1)] rfl rfl (Nat.le_of_ble_eq_true rfl) (ev_78 (d := d) (by omega) hT13 ) (fun r16 w15 hT15 => ?_)
        refine s_const rfl ?_
        refine s_iast rfl hT15 (of_5_1 ho0) (fun w17 hT17 => ?_)
        refine s_iincF (fun v4_18 => [(0, .ref o0), (1, .ref o1), (2, .int p2), (3, .int v3_4), (4, .int v4_18)]) rfl rfl (fun _ => subl_c rfl (subl_c rfl (subl_c rfl (subl_c rfl (subl_c rfl (subl_n)))))) (fun v4_18 => ?_)
        refine s_goto rfl ?_
        exact s_back (lvL := lvL12) (s' := v4_18) (subl_c rfl (subl_c rfl (subl_c rfl (subl_c rfl (subl_c rfl (subl_n)))))) hT17 (fun _ _ h => h)
      · refine s_ic1 rfl (zc_ge1 h14) ?_
        refine s_iincF (fun v3_19 => [(0, .ref o0), (1, .ref o1), (2, .int p2), (3, .int v3_19)]) rfl rfl (fun _ => subl_c rfl (subl_c rfl (subl_c rfl (subl_c rfl (subl_n))))) (fun v3_19 => ?_)
        refine s_goto rfl ?_
        exact s_back (lvL := lvL5) (s' := v3_19) (subl_c rfl (subl_c rfl (subl_c rfl (subl_c rfl (subl_n))))) hT13 (fun _ _ h => h)
    · refine s_ic1 rfl (zc_ge1 h7) ?_
      refine s_aload rfl rfl ?_
      refine s_getF rfl hT6 ho0 rfl ?_
      refine s_iload rfl rfl ?_
      refine s_const rfl ?_
      refine s_iast rfl hT6 (of_5_3 ho0) (fun w21 hT21 => ?_)
      refine s_const rfl ?_
      exact s_retZ (z := true) rfl rfl hT21 (fun _ _ h => h)
  · refine s_if0 rfl (zb_ne0 h3) ?_
    refine s_const rfl ?_
    exact s_retZ (z := false) rfl rfl hT1 (fun _ _ h => h)
/-- RugReader.beat(II)I -/
def sh_84 (o0 : Nat) (p1 : Int32) (p2 : Int32) (w : Wd) : Option (Int32 × Wd) := der (wR w o0 2) (fun a1 => cl (sh_56 a1 p1 w) (fun r3 w2 => if r3 = true then (der (wR w2 o0 2) (fun a5 => cl (sh_56 a5 p2 w2) (fun r7 w6 => if r7 = true then (cl (sh_70 o0 w6) (fun _ w9 => cl (sh_19 (zrem p1 12) (zrem p2 12) w9) (fun r12 w11 => cl (sh_85 (zrem p1 12) (zrem p2 12) w11) (fun r14 w13 => cl (sh_85 (p1 / 12) (p2 / 12) w13) (fun r16 w15 => cl (sh_19 (p1 / 12) (p2 / 12) w15) (fun r18 w17 => itM (fun (s38 : Int32 × Int32) (w22 : Wd) => match s38 with | (v6_19, v7_20) => if v7_20 ≤ r16 then (itM (fun (s37 : Int32 × Int32) (w27 : Wd) => match s37 with | (v6_24, v8_25) => if v8_25 ≤ r14 then (der (wR w27 o0 2) (fun a29 => cl (sh_86 (o0 + 35) a29 ((v7_20 * 12) + v8_25) w27) (fun r31 w30 => if r31 = true then (lt (v6_24 + 1 : Int32) (fun v6_33 => lt (v8_25 + 1 : Int32) (fun v8_34 => some (.inl (v6_33, v8_34), w30)))) else (lt (v8_25 + 1 : Int32) (fun v8_35 => some (.inl (v6_24, v8_35), w30)))))) else (lt (v7_20 + 1 : Int32) (fun v7_36 => some (.inr (.inl (v6_24, v7_36)), w27)))) FU (v6_19, r12) w22) else (some (.inr (v6_19), w22))) FU (0, r18) w17)))))) else (some ((-1), w6))))) else (some ((-1), w2))))
set_option maxRecDepth 20000 in
set_option maxHeartbeats 4000000 in
theorem ev_84 {d : Nat} (hd : 5 ≤ d) {o0 : Nat} {p1 : Int32} {p2 : Int32} {w : Wd} (hT : TY w) (ho0 : ist o0 9) : sp (sh_84 o0 p1 p2 w) (fun r w' => TY w' ∧ Ev d 84 [.ref o0, .int p1, .int p2] w (cvI r) w') := by
  obtain ⟨d, rfl⟩ : ∃ d', d = d' + 1 := ⟨d - 1, by omega⟩
  refine ev_of (M := M84) zin_84 rfl (by decide) rfl (Nat.le_of_ble_eq_true rfl) (Or.inr ⟨o0, _, rfl, ho0⟩) hT ?_
  show sp _ (PP (Ev d) M84 (KR cvI) (0, [(0, .ref o0), (1, .int p1), (2, .int p2)], [], w))
  unfold sh_84
  refine s_aload rfl rfl ?_
  refine s_getD rfl hT ho0 (by decide) rfl (fun a1 ha1 => ?_)
  refine s_iload rfl rfl ?_
  refine s_callZ [.ref a1, .int p1] [] rfl rfl (Nat.le_of_ble_eq_true rfl) (ev_56 (d := d) (by omega) hT ha1) (fun r3 w2 hT2 => ?_)
  refine sp_ite (fun h4 => ?_) (fun h4 => ?_)
  · refine s_if0 rfl (zb_eq0 h4) ?_
    refine s_aload rfl rfl ?_
    refine s_getD rfl hT2 ho0 (by decide) rfl (fun a5 ha5 => ?_)
    refine s_iload rfl rfl ?_
    refine s_callZ [.ref a5, .int p2] [] rfl rfl (Nat.le_of_ble_eq_true rfl) (ev_56 (d := d) (by omega) hT2 ha5) (fun r7 w6 hT6 => ?_)
    refine sp_ite (fun h8 => ?_) (fun h8 => ?_)
    · refine s_if1 rfl (zb_ne1 h8) ?_
      refine s_aload rfl rfl ?_
      refine s_callV [.ref o0] [] rfl rfl (Nat.le_of_ble_eq_true rfl) (ev_70 (d := d) (by omega) hT6 ho0) (fun _ w9 hT9 => ?_)
      refine s_iload rfl rfl ?_
      refine s_const rfl ?_
      refine s_rem rfl (by decide) ?_
      refine s_iload rfl rfl ?_
      refine s_const rfl ?_
      refine s_rem rfl (by decide) ?_
      refine s_callI [.int (zrem p1 12), .int (zrem p2 12)] [] rfl rfl (Nat.le_of_ble_eq_true rfl) (ev_19 (d := d) (by omega) hT9 ) (fun r12 w11 hT11 => ?_)
      refine s_istoreF [(0, .ref o0), (1, .int p1), (2, .int p2), (3, .int r12)] rfl (subl_c rfl (subl_c rfl (subl_c rfl (subl_c rfl (subl_n))))) ?_
      refine s_iload rfl rfl ?_
      refine s_const rfl ?_
      refine s_rem rfl (by decide) ?_
      refine s_iload rfl rfl ?_
      refine s_const rfl ?_
      refine s_rem rfl (by decide) ?_
      refine s_callI [.int (zrem p1 12), .int (zrem p2 12)] [] rfl rfl (Nat.le_of_ble_eq_true rfl) (ev_85 (d := d) (by omega) hT11 ) (fun r14 w13 hT13 => ?_)
      refine s_istoreF [(0, .ref o0), (1, .int p1), (2, .int p2), (3, .int r12), (4, .int r14)] rfl (subl_c rfl (subl_c rfl (subl_c rfl (subl_c rfl (subl_c rfl (subl_n)))))) ?_
      refine s_iload rfl rfl ?_
      refine s_const rfl ?_
      refine s_div rfl (by decide) ?_
      refine s_iload rfl rfl ?_
      refine s_const rfl ?_
      refine s_div rfl (by decide) ?_
      refine s_callI [.int (p1 / 12), .int (p2 / 12)] [] rfl rfl (Nat.le_of_ble_eq_true rfl) (ev_85 (d := d) (by omega) hT13 ) (fun r16 w15 hT15 => ?_)
      refine s_istoreF [(0, .ref o0), (1, .int p1), (2, .int p2), (3, .int r12), (4, .int r14), (5, .int r16)] rfl (subl_c rfl (subl_c rfl (subl_c rfl (subl_c rfl (subl_c rfl (subl_c rfl (subl_n))))))) ?_
      refine s_const rfl ?_
      refine s_istoreF [(0, .ref o0), (1, .int p1), (2, .int p2), (3, .int r12), (4, .int r14), (5, .int r16), (6, .int 0)] rfl (subl_c rfl (subl_c rfl (subl_c rfl (subl_c rfl (subl_c rfl (subl_c rfl (subl_c rfl (subl_n)))))))) ?_
      refine s_iload rfl rfl ?_
      refine s_const rfl ?_
      refine s_div rfl (by decide) ?_
      refine s_iload rfl rfl ?_
      refine s_const rfl ?_
      refine s_div rfl (by decide) ?_
      refine s_callI [.int (p1 / 12), .int (p2 / 12)] [] rfl rfl (Nat.le_of_ble_eq_true rfl) (ev_19 (d := d) (by omega) hT15 ) (fun r18 w17 hT17 => ?_)
      refine s_istoreF [(0, .ref o0), (3, .int r12), (4, .int r14), (5, .int r16), (6, .int 0), (7, .int r18)] rfl (subl_c rfl (subl_c rfl (subl_c rfl (subl_c rfl (subl_c rfl (subl_c rfl (subl_n))))))) ?_
      let lvL21 : Int32 × Int32 → List (Nat × Value) := fun s38 => [(0, .ref o0), (3, .int r12), (4, .int r14), (5, .int r16), (6, .int (s38.1)), (7, .int (s38.2))]
      refine s_loop lvL21 (subl_c rfl (subl_c rfl (subl_c rfl (subl_c rfl (subl_c rfl (subl_c rfl (subl_n))))))) hT17 (fun s38 w22 hT22 => ?_)
      obtain ⟨v6_19, v7_20⟩ := s38
      show sp _ (PP _ _ _ (82, [(0, .ref o0), (3, .int r12), (4, .int r14), (5, .int r16), (6, .int v6_19), (7, .int v7_20)], [], w22))
      refine s_iload rfl rfl ?_
      refine s_iload rfl rfl ?_
      refine sp_ite (fun h23 => ?_) (fun h23 => ?_)
      · refine s_ic0 rfl (zc_gt0 h23) ?_
        refine s_iload rfl rfl ?_
        refine s_istoreF [(0, .ref o0), (3, .int r12), (4, .int r14), (5, .int r16), (6, .int v6_19), (7, .int v7_20), (8, .int r12)] rfl (subl_c rfl (subl_c rfl (subl_c rfl (subl_c rfl (subl_c rfl (subl_c rfl (subl_c rfl (subl_n)))))))) ?_
        let lvL26 : Int32 × Int32 → List (Nat × Value) := fun s37 => [(0, .ref o0), (3, .int r12), (4, .int r14), (5, .int r16), (6, .int (s37.1)), (7, .int v7_20), (8, .int (s37.2))]
        refine s_loop lvL26 (subl_c rfl (subl_c rfl (subl_c rfl (subl_c rfl (subl_c rfl (subl_c rfl (subl_c rfl (subl_n)))))))) hT22 (fun s37 w27 hT27 => ?_)
        obtain ⟨v6_24, v8_25⟩ := s37
        show sp _ (PP _ _ _ (92, [(0, .ref o0), (3, .int r12), (4, .int r14), (5, .int r16), (6, .int v6_24), (7, .int v7_20), (8, .int v8_25)], [], w27))
        refine s_iload rfl rfl ?_
        refine s_iload rfl rfl ?_
        refine sp_ite (fun h28 => ?_) (fun h28 => ?_)
        · refine s_ic0 rfl (zc_gt0 h28) ?_
          refine s_aload rfl rfl ?_
          refine s_getF rfl hT27 ho0 rfl ?_
          refine s_aload rfl rfl ?_
          refine s_getD rfl hT27 ho0 (by decide) rfl (fun a29 ha29 => ?_)
          refine s_iload rfl rfl ?_
          refine s_const rfl ?_
          refine s_bin rfl rfl ?_
          refine s_iload rfl rfl ?_
          refine s_bin rfl rfl ?_
          refine s_callZ [.ref (o0 + 35), .ref a29, .int ((v7_20 * 12) + v8_25)] [] rfl rfl (Nat.le_of_ble_eq_true rfl) (ev_86 (d := d) (by omega) hT27 (of_9_6 ho0) ha29) (fun r31 w30 hT30 => ?_)
          refine sp_ite (fun h32 => ?_) (fun h32 => ?_)
          · refine s_if0 rfl (zb_eq0 h32) ?_
            refine s_iincF (fun v6_33 => [(0, .ref o0), (3, .int r12), (4, .int r14), (5, .int r16), (6, .int v6_33), (7, .int v7_20), (8, .int v8_25)]) rfl rfl (fun _ => subl_c rfl (subl_c rfl (subl_c rfl (subl_c rfl (subl_c rfl (subl_c rfl (subl_c rfl (subl_n)))))))) (fun v6_33 => ?_)
            refine s_iincF (fun v8_34 => [(0, .ref o0), (3, .int r12), (4, .int r14), (5, .int r16), (6, .int v6_33), (7, .int v7_20), (8, .int v8_34)]) rfl rfl (fun _ => subl_c rfl (subl_c rfl (subl_c rfl (subl_c rfl (subl_c rfl (subl_c rfl (subl_c rfl (subl_n)))))))) (fun v8_34 => ?_)
            refine s_goto rfl ?_
            exact s_back (lvL := lvL26) (s' := (v6_33, v8_34)) (subl_c rfl (subl_c rfl (subl_c rfl (subl_c rfl (subl_c rfl (subl_c rfl (subl_c rfl (subl_n)))))))) hT30 (fun _ _ h => h)
          · refine s_if1 rfl (zb_eq1 h32) ?_
            refine s_iincF (fun v8_35 => [(0, .ref o0), (3, .int r12), (4, .int r14), (5, .int r16), (6, .int v6_24), (7, .int v7_20), (8, .int v8_35)]) rfl rfl (fun _ => subl_c rfl (subl_c rfl (subl_c rfl (subl_c rfl (subl_c rfl (subl_c rfl (subl_c rfl (subl_n)))))))) (fun v8_35 => ?_)
            refine s_goto rfl ?_
            exact s_back (lvL := lvL26) (s' := (v6_24, v8_35)) (subl_c rfl (subl_c rfl (subl_c rfl (subl_c rfl (subl_c rfl (subl_c rfl (subl_c rfl (subl_n)))))))) hT30 (fun _ _ h => h)
        · refine s_ic1 rfl (zc_gt1 h28) ?_
          refine s_iincF (fun v7_36 => [(0, .ref o0), (3, .int r12), (4, .int r14), (5, .int r16), (6, .int v6_24), (7, .int v7_36)]) rfl rfl (fun _ => subl_c rfl (subl_c rfl (subl_c rfl (subl_c rfl (subl_c rfl (subl_c rfl (subl_n))))))) (fun v7_36 => ?_)
          refine s_goto rfl ?_
          exact s_back (lvL := lvL21) (s' := (v6_24, v7_36)) (subl_c rfl (subl_c rfl (subl_c rfl (subl_c rfl (subl_c rfl (subl_c rfl (subl_n))))))) hT27 (fun _ _ h => h)
      · refine s_ic1 rfl (zc_gt1 h23) ?_
        refine s_iload rfl rfl ?_
        exact s_retI rfl rfl hT22 (fun _ _ h => h)
    · refine s_if0 rfl (zb_ne0 h8) ?_
      refine s_const rfl ?_
      exact s_retI rfl rfl hT6 (fun _ _ h => h)
  · refine s_if1 rfl (zb_eq1 h4) ?_
    refine s_const rfl ?_
    exact s_retI rfl rfl hT2 (fun _ _ h => h)
/-- RugReader.nextSeed(I)I -/
def sh_92 (p0 : Int32) (w : Wd) : Option (Int32 × Wd) := some ((p0 * 1103515245) + 12345, w)
set_option maxRecDepth 20000 in
set_option maxHeartbeats 4000000 in
theorem ev_92 {d : Nat} (hd : 1 ≤ d) {p0 : Int32} {w : Wd} (hT : TY w)  : sp (sh_92 p0 w) (fun r w' => TY w' ∧ Ev d 92 [.int p0] w (cvI r) w') := by
  obtain ⟨d, rfl⟩ : ∃ d', d = d' + 1 := ⟨d - 1, by omega⟩
  refine ev_of (M := M92) zin_92 rfl (by decide) rfl (Nat.le_of_ble_eq_true rfl) (Or.inl rfl) hT ?_
  show sp _ (PP (Ev d) M92 (KR cvI) (0, [(0, .int p0)], [], w))
  unfold sh_92
  refine s_iload rfl rfl ?_
  refine s_const rfl ?_
  refine s_bin rfl rfl ?_
  refine s_const rfl ?_
  refine s_bin rfl rfl ?_
  exact s_retI rfl rfl hT (fun _ _ h => h)
/-- RugReader.draw(II)I -/
def sh_93 (p0 : Int32) (p1 : Int32) (w : Wd) : Option (Int32 × Wd) := if p1 < 1 then (some (0, w)) else (gd (decide (¬ p1 = 0)) (some (zrem (zush p0 8) p1, w)))
set_option maxRecDepth 20000 in
set_option maxHeartbeats 4000000 in
theorem ev_93 {d : Nat} (hd : 1 ≤ d) {p0 : Int32} {p1 : Int32} {w : Wd} (hT : TY w)  : sp (sh_93 p0 p1 w) (fun r w' => TY w' ∧ Ev d 93 [.int p0, .int p1] w (cvI r) w') := by
  obtain ⟨d, rfl⟩ : ∃ d', d = d' + 1 := ⟨d - 1, by omega⟩
  refine ev_of (M := M93) zin_93 rfl (by decide) rfl (Nat.le_of_ble_eq_true rfl) (Or.inl rfl) hT ?_
  show sp _ (PP (Ev d) M93 (KR cvI) (0, [(0, .int p0), (1, .int p1)], [], w))
  unfold sh_93
  refine s_iload rfl rfl ?_
  refine s_const rfl ?_
  refine sp_ite (fun h1 => ?_) (fun h1 => ?_)
  · refine s_ic0 rfl (zc_ge0 h1) ?_
    refine s_const rfl ?_
    refine s_goto rfl ?_
    exact s_retI rfl rfl hT (fun _ _ h => h)
  · refine s_ic1 rfl (zc_ge1 h1) ?_
    refine s_iload rfl rfl ?_
    refine s_const rfl ?_
    refine s_bin rfl rfl ?_
    refine s_iload rfl rfl ?_
    refine sp_gd (fun h2 => ?_)
    refine s_rem rfl (of_decide_eq_true h2) ?_
    exact s_retI rfl rfl hT (fun _ _ h => h)
/-- RugReader.drawDay(II)I -/
def sh_91 (o0 : Nat) (p1 : Int32) (p2 : Int32) (w : Wd) : Option (Int32 × Wd) := itM (fun (s51 : Int32 × Int32) (w4 : Wd) => match s51 with | (v3_1, v4_2) => if v4_2 < p2 then (cl (sh_92 v3_1 w4) (fun r7 w6 => der (wR w6 o0 2) (fun a8 => cl (sh_93 r7 (wI w6 a8 3) w6) (fun r10 w9 => cl (sh_92 r7 w9) (fun r12 w11 => der (wR w11 o0 2) (fun a13 => der (wR w11 o0 2) (fun a14 => cl (sh_93 r12 (wI w11 a14 4) w11) (fun r16 w15 => der (wR w15 o0 2) (fun a17 => cl (sh_73 a17 r10 w15) (fun r19 w18 => cl (sh_74 (o0 + 35) a13 r10 r16 r19 w18) (fun _ w20 => lt (v4_2 + 1 : Int32) (fun v4_22 => some (.inl (r12, v4_22), w20))))))))))))) else (cl (sh_92 v3_1 w4) (fun r24 w23 => cl (sh_93 r24 6 w23) (fun r26 w25 => if r26 = 0 then (cl (sh_92 r24 w25) (fun r29 w28 => der (wR w28 o0 2) (fun a30 => cl (sh_93 r29 (wI w28 a30 0) w28) (fun r32 w31 => cl (sh_92 r29 w31) (fun r34 w33 => der (wR w33 o0 2) (fun a35 => der (wR w33 o0 2) (fun a36 => cl (sh_93 r34 (wI w33 a36 1) w33) (fun r38 w37 => cl (sh_86 (o0 + 35) a35 ((r38 * 12) + r32) w37) (fun r40 w39 => der (wR w39 o0 2) (fun a41 => cl (sh_82 a41 w39) (fun r43 w42 => cl (sh_83 (o0 + 35) r43 w42) (fun _ w44 => some (.inr (r34), w44))))))))))))) else (der (wR w25 o0 2) (fun a46 => cl (sh_82 a46 w25) (fun r48 w47 => cl (sh_83 (o0 + 35) r48 w47) (fun _ w49 => some (.inr (r24), w49))))))))) FU (p1, 0) w
set_option maxRecDepth 20000 in
set_option maxHeartbeats 4000000 in
theorem ev_91 {d : Nat} (hd : 6 ≤ d) {o0 : Nat} {p1 : Int32} {p2 : Int32} {w : Wd} (hT : TY w) (ho0 : ist o0 9) : sp (sh_91 o0 p1 p2 w) (fun r w' => TY w' ∧ Ev d 91 [.ref o0, .int p1, .int p2] w (cvI r) w') := by
  obtain ⟨d, rfl⟩ : ∃ d', d = d' + 1 := ⟨d - 1, by omega⟩
  refine ev_of (M := M91) zin_91 rfl (by decide) rfl (Nat.le_of_ble_eq_true rfl) (Or.inr ⟨o0, _, rfl, ho0⟩) hT ?_
  show sp _ (PP (Ev d) M91 (KR cvI) (0, [(0, .ref o0), (1, .int p1), (2, .int p2)], [], w))
  unfold sh_91
  refine s_iload rfl rfl ?_
  refine s_istoreF [(0, .ref o0), (2, .int p2), (3, .int p1)] rfl (subl_c rfl (subl_c rfl (subl_c rfl (subl_n)))) ?_
  refine s_const rfl ?_
  refine s_istoreF [(0, .ref o0), (2, .int p2), (3, .int p1), (4, .int 0)] rfl (subl_c rfl (subl_c rfl (subl_c rfl (subl_c rfl (subl_n))))) ?_
  let lvL3 : Int32 × Int32 → List (Nat × Value) := fun s51 => [(0, .ref o0), (2, .int p2), (3, .int (s51.1)), (4, .int (s51.2))]
  refine s_loop lvL3 (subl_c rfl (subl_c rfl (subl_c rfl (subl_c rfl (subl_n))))) hT (fun s51 w4 hT4 => ?_)
  obtain ⟨v3_1, v4_2⟩ := s51
  show sp _ (PP _ _ _ (5, [(0, .ref o0), (2, .int p2), (3, .int v3_1), (4, .int v4_2)], [], w4))
  refine s_iload rfl rfl ?_
  refine s_iload rfl rfl ?_
  refine sp_ite (fun h5 => ?_) (fun h5 => ?_)
  · refine s_ic0 rfl (zc_ge0 h5) ?_
    refine s_iload rfl rfl ?_
    refine s_callI [.int v3_1] [] rfl rfl (Nat.le_of_ble_eq_true rfl) (ev_92 (d := d) (by omega) hT4 ) (fun r7 w6 hT6 => ?_)
    refine s_istoreF [(0, .ref o0), (2, .int p2), (3, .int r7), (4, .int v4_2)] rfl (subl_c rfl (subl_c rfl (subl_c rfl (subl_c rfl (subl_n))))) ?_
    refine s_iload rfl rfl ?_
    refine s_aload rfl rfl ?_
    refine s_getD rfl hT6 ho0 (by decide) rfl (fun a8 ha8 => ?_)
    refine s_getI rfl hT6 ha8 ?_
    refine s_callI [.int r7, .int (wI w6 a8 3)] [] rfl rfl (Nat.le_of_ble_eq_true rfl) (ev_93 (d := d) (by omega) hT6 ) (fun r10 w9 hT9 => ?_)
    refine s_istoreF [(0, .ref o0), (2, .int p2), (3, .int r7), (4, .int v4_2), (5, .int r10)] rfl (subl_c rfl (subl_c rfl (subl_c rfl (subl_c rfl (subl_c rfl (subl_n)))))) ?_
    refine s_iload rfl rfl ?_
    refine s_callI [.int r7] [] rfl rfl (Nat.le_of_ble_eq_true rfl) (ev_92 (d := d) (by omega) hT9 ) (fun r12 w11 hT11 => ?_)
    refine s_istoreF [(0, .ref o0), (2, .int p2), (3, .int r12), (4, .int v4_2), (5, .int r10)] rfl (subl_c rfl (subl_c rfl (subl_c rfl (subl_c rfl (subl_c rfl (subl_n)))))) ?_
    refine s_aload rfl rfl ?_
    refine s_getF rfl hT11 ho0 rfl ?_
    refine s_aload rfl rfl ?_
    refine s_getD rfl hT11 ho0 (by decide) rfl (fun a13 ha13 => ?_)
    refine s_iload rfl rfl ?_
    refine s_iload rfl rfl ?_
    refine s_aload rfl rfl ?_
    refine s_getD rfl hT11 ho0 (by decide) rfl (fun a14 ha14 => ?_)
    refine s_getI rfl hT11 ha14 ?_
    refine s_callI [.int r12, .int (wI w11 a14 4)] [.int r10, .ref a13, .ref (o0 + 35)] rfl rfl (Nat.le_of_ble_eq_true rfl) (ev_93 (d := d) (by omega) hT11 ) (fun r16 w15 hT15 => ?_)
    refine s_aload rfl rfl ?_
    refine s_getD rfl hT15 ho0 (by decide) rfl (fun a17 ha17 => ?_)
    refine s_iload rfl rfl ?_
    refine s_callI [.ref a17, .int r10] [.int r16, .int r10, .ref a13, .ref (o0 + 35)] rfl rfl (Nat.le_of_ble_eq_true rfl) (ev_73 (d := d) (by omega) hT15 ha17) (fun r19 w18 hT18 => ?_)
    refine s_callV [.ref (o0 + 35), .ref a13, .int r10, .int r16, .int r19] [] rfl rfl (Nat.le_of_ble_eq_true rfl) (ev_74 (d := d) (by omega) hT18 (of_9_6 ho0) ha13) (fun _ w20 hT20 => ?_)
    refine s_iincF (fun v4_22 => [(0, .ref o0), (2, .int p2), (3, .int r12), (4, .int v4_22)]) rfl rfl (fun _ => subl_c rfl (subl_c rfl (subl_c rfl (subl_c rfl (subl_n))))) (fun v4_22 => ?_)
    refine s_goto rfl ?_
    exact s_back (lvL := lvL3) (s' := (r12, v4_22)) (subl_c rfl (subl_c rfl (subl_c rfl (subl_c rfl (subl_n))))) hT20 (fun _ _ h => h)
  · refine s_ic1 rfl (zc_ge1 h5) ?_
    refine s_iload rfl rfl ?_
    refine s_callI [.int v3_1] [] rfl rfl (Nat.le_of_ble_eq_true rfl) (ev_92 (d := d) (by omega) hT4 ) (fun r24 w23 hT23 => ?_)
    refine s_istoreF [(0, .ref o0), (3, .int r24)] rfl (subl_c rfl (subl_c rfl (subl_n))) ?_
    refine s_iload rfl rfl ?_
    refine s_const rfl ?_
    refine s_callI [.int r24, .int 6] [] rfl rfl (Nat.le_of_ble_eq_true rfl) (ev_93 (d := d) (by omega) hT23 ) (fun r26 w25 hT25 => ?_)
    refine sp_ite (fun h27 => ?_) (fun h27 => ?_)
    · refine s_if0 rfl (zc_ne0 h27) ?_
      refine s_iload rfl rfl ?_
      refine s_callI [.int r24] [] rfl rfl (Nat.le_of_ble_eq_true rfl) (ev_92 (d := d) (by omega) hT25 ) (fun r29 w28 hT28 => ?_)
      refine s_istoreF [(0, .ref o0), (3, .int r29)] rfl (subl_c rfl (subl_c rfl (subl_n))) ?_
      refine s_iload rfl rfl ?_
      refine s_aload rfl rfl ?_
      refine s_getD rfl hT28 ho0 (by decide) rfl (fun a30 ha30 => ?_)
      refine s_getI rfl hT28 ha30 ?_
      refine s_callI [.int r29, .int (wI w28 a30 0)] [] rfl rfl (Nat.le_of_ble_eq_true rfl) (ev_93 (d := d) (by omega) hT28 ) (fun r32 w31 hT31 => ?_)
      refine s_istoreF [(0, .ref o0), (3, .int r29), (4, .int r32)] rfl (subl_c rfl (subl_c rfl (subl_c rfl (subl_n)))) ?_
      refine s_iload rfl rfl ?_
      refine s_callI [.int r29] [] rfl rfl (Nat.le_of_ble_eq_true rfl) (ev_92 (d := d) (by omega) hT31 ) (fun r34 w33 hT33 => ?_)
      refine s_istoreF [(0, .ref o0), (3, .int r34), (4, .int r32)] rfl (subl_c rfl (subl_c rfl (subl_c rfl (subl_n)))) ?_
      refine s_aload rfl rfl ?_
      refine s_getF rfl hT33 ho0 rfl ?_
      refine s_aload rfl rfl ?_
      refine s_getD rfl hT33 ho0 (by decide) rfl (fun a35 ha35 => ?_)
      refine s_iload rfl rfl ?_
      refine s_aload rfl rfl ?_
      refine s_getD rfl hT33 ho0 (by decide) rfl (fun a36 ha36 => ?_)
      refine s_getI rfl hT33 ha36 ?_
      refine s_callI [.int r34, .int (wI w33 a36 1)] [.ref a35, .ref (o0 + 35)] rfl rfl (Nat.le_of_ble_eq_true rfl) (ev_93 (d := d) (by omega) hT33 ) (fun r38 w37 hT37 => ?_)
      refine s_const rfl ?_
      refine s_bin rfl rfl ?_
      refine s_iload rfl rfl ?_
      refine s_bin rfl rfl ?_
      refine s_callZ [.ref (o0 + 35), .ref a35, .int ((r38 * 12) + r32)] [] rfl rfl (Nat.le_of_ble_eq_true rfl) (ev_86 (d := d) (by omega) hT37 (of_9_6 ho0) ha35) (fun r40 w39 hT39 => ?_)
      refine s_pop rfl rfl ?_
      refine s_aload rfl rfl ?_
      refine s_getF rfl hT39 ho0 rfl ?_
      refine s_aload rfl rfl ?_
      refine s_getD rfl hT39 ho0 (by decide) rfl (fun a41 ha41 => ?_)
      refine s_callI [.ref a41] [.ref (o0 + 35)] rfl rfl (Nat.le_of_ble_eq_true rfl) (ev_82 (d := d) (by omega) hT39 ha41) (fun r43 w42 hT42 => ?_)
      refine s_callV [.ref (o0 + 35), .int r43] [] rfl rfl (Nat.le_of_ble_eq_true rfl) (ev_83 (d := d) (by omega) hT42 (of_9_6 ho0)) (fun _ w44 hT44 => ?_)
      refine s_iload rfl rfl ?_
      exact s_retI rfl rfl hT44 (fun _ _ h => h)
    · refine s_if1 rfl (zc_ne1 h27) ?_
      refine s_aload rfl rfl ?_
      refine s_getF rfl hT25 ho0 rfl ?_
      refine s_aload rfl rfl ?_
      refine s_getD rfl hT25 ho0 (by decide) rfl (fun a46 ha46 => ?_)
      refine s_callI [.ref a46] [.ref (o0 + 35)] rfl rfl (Nat.le_of_ble_eq_true rfl) (ev_82 (d := d) (by omega) hT25 ha46) (fun r48 w47 hT47 => ?_)
      refine s_callV [.ref (o0 + 35), .int r48] [] rfl rfl (Nat.le_of_ble_eq_true rfl) (ev_83 (d := d) (by omega) hT47 (of_9_6 ho0)) (fun _ w49 hT49 => ?_)
      refine s_iload rfl rfl ?_
      exact s_retI rfl rfl hT49 (fun _ _ h => h)
/-- RugReader.years(III)I -/
def sh_90 (o0 : Nat) (p1 : Int32) (p2 : Int32) (p3 : Int32) (w : Wd) : Option (Int32 × Wd) := if 1 ≤ p1 then (if p1 ≤ 60 then (if 1 ≤ p2 then (if p2 ≤ 9 then (der (wR w o0 2) (fun a5 => if wI w a5 3 = 0 then (some ((-1), w)) else (der (wR w o0 2) (fun a7 => if wI w a7 4 = 0 then (some ((-1), w)) else (if 999 - p1 < wI w (o0 + 35) 0 then (some ((-1), w)) else (cl (sh_70 o0 w) (fun _ w10 => itM (fun (s20 : Int32 × Int32) (w15 : Wd) => match s20 with | (v4_12, v5_13) => if v5_13 < p1 then (cl (sh_91 o0 v4_12 p2 w15) (fun r18 w17 => lt (v5_13 + 1 : Int32) (fun v5_19 => some (.inl (r18, v5_19), w17)))) else (some (.inr (wI w15 (o0 + 35) 0), w15))) FU (p3, 0) w10))))))) else (some ((-1), w))) else (some ((-1), w))) else (some ((-1), w))) else (some ((-1), w))
set_option maxRecDepth 20000 in
set_option maxHeartbeats 4000000 in
theorem ev_90 {d : Nat} (hd : 7 ≤ d) {o0 : Nat} {p1 : Int32} {p2 : Int32} {p3 : Int32} {w : Wd} (hT : TY w) (ho0 : ist o0 9) : sp (sh_90 o0 p1 p2 p3 w) (fun r w' => TY w' ∧ Ev d 90 [.ref o0, .int p1, .int p2, .int p3] w (cvI r) w') := by
  obtain ⟨d, rfl⟩ : ∃ d', d = d' + 1 := ⟨d - 1, by omega⟩
  refine ev_of (M := M90) zin_90 rfl (by decide) rfl (Nat.le_of_ble_eq_true rfl) (Or.inr ⟨o0, _, rfl, ho0⟩) hT ?_
  show sp _ (PP (Ev d) M90 (KR cvI) (0, [(0, .ref o0), (1, .int p1), (2, .int p2), (3, .int p3)], [], w))
  unfold sh_90
  refine s_iload rfl rfl ?_
  refine s_const rfl ?_
  refine sp_ite (fun h1 => ?_) (fun h1 => ?_)
  · refine s_ic0 rfl (zc_lt0 h1) ?_
    refine s_iload rfl rfl ?_
    refine s_const rfl ?_
    refine sp_ite (fun h2 => ?_) (fun h2 => ?_)
    · refine s_ic0 rfl (zc_gt0 h2) ?_
      refine s_iload rfl rfl ?_
      refine s_const rfl ?_
      refine sp_ite (fun h3 => ?_) (fun h3 => ?_)
      · refine s_ic0 rfl (zc_lt0 h3) ?_
        refine s_iload rfl rfl ?_
        refine s_const rfl ?_
        refine sp_ite (fun h4 => ?_) (fun h4 => ?_)
        · refine s_ic0 rfl (zc_gt0 h4) ?_
          refine s_aload rfl rfl ?_
          refine s_getD rfl hT ho0 (by decide) rfl (fun a5 ha5 => ?_)
          refine s_getI rfl hT ha5 ?_
          refine sp_ite (fun h6 => ?_) (fun h6 => ?_)
          · refine s_if1 rfl (zc_eq1 h6) ?_
            refine s_const rfl ?_
            exact s_retI rfl rfl hT (fun _ _ h => h)
          · refine s_if0 rfl (zc_eq0 h6) ?_
            refine s_aload rfl rfl ?_
            refine s_getD rfl hT ho0 (by decide) rfl (fun a7 ha7 => ?_)
            refine s_getI rfl hT ha7 ?_
            refine sp_ite (fun h8 => ?_) (fun h8 => ?_)
            · refine s_if1 rfl (zc_eq1 h8) ?_
              refine s_const rfl ?_
              exact s_retI rfl rfl hT (fun _ _ h => h)
            · refine s_if0 rfl (zc_eq0 h8) ?_
              refine s_aload rfl rfl ?_
              refine s_getF rfl hT ho0 rfl ?_
              refine s_getI rfl hT (of_9_6 ho0) ?_
              refine s_const rfl ?_
              refine s_iload rfl rfl ?_
              refine s_bin rfl rfl ?_
              refine sp_ite (fun h9 => ?_) (fun h9 => ?_)
              · refine s_ic0 rfl (zc_le0 h9) ?_
                refine s_const rfl ?_
                exact s_retI rfl rfl hT (fun _ _ h => h)
              · refine s_ic1 rfl (zc_le1 h9) ?_
                refine s_aload rfl rfl ?_
                refine s_callV [.ref o0] [] rfl rfl (Nat.le_of_ble_eq_true rfl) (ev_70 (d := d) (by omega) hT ho0) (fun _ w10 hT10 => ?_)
                refine s_iload rfl rfl ?_
                refine s_istoreF [(0, .ref o0), (1, .int p1), (2, .int p2), (4, .int p3)] rfl (subl_c rfl (subl_c rfl (subl_c rfl (subl_c rfl (subl_n))))) ?_
                refine s_const rfl ?_
                refine s_istoreF [(0, .ref o0), (1, .int p1), (2, .int p2), (4, .int p3), (5, .int 0)] rfl (subl_c rfl (subl_c rfl (subl_c rfl (subl_c rfl (subl_c rfl (subl_n)))))) ?_
                let lvL14 : Int32 × Int32 → List (Nat × Value) := fun s20 => [(0, .ref o0), (1, .int p1), (2, .int p2), (4, .int (s20.1)), (5, .int (s20.2))]
                refine s_loop lvL14 (subl_c rfl (subl_c rfl (subl_c rfl (subl_c rfl (subl_c rfl (subl_n)))))) hT10 (fun s20 w15 hT15 => ?_)
                obtain ⟨v4_12, v5_13⟩ := s20
                show sp _ (PP _ _ _ (69, [(0, .ref o0), (1, .int p1), (2, .int p2), (4, .int v4_12), (5, .int v5_13)], [], w15))
                refine s_iload rfl rfl ?_
                refine s_iload rfl rfl ?_
                refine sp_ite (fun h16 => ?_) (fun h16 => ?_)
                · refine s_ic0 rfl (zc_ge0 h16) ?_
                  refine s_aload rfl rfl ?_
                  refine s_iload rfl rfl ?_
                  refine s_iload rfl rfl ?_
                  refine s_callI [.ref o0, .int v4_12, .int p2] [] rfl rfl (Nat.le_of_ble_eq_true rfl) (ev_91 (d := d) (by omega) hT15 ho0) (fun r18 w17 hT17 => ?_)
                  refine s_istoreF [(0, .ref o0), (1, .int p1), (2, .int p2), (4, .int r18), (5, .int v5_13)] rfl (subl_c rfl (subl_c rfl (subl_c rfl (subl_c rfl (subl_c rfl (subl_n)))))) ?_
                  refine s_iincF (fun v5_19 => [(0, .ref o0), (1, .int p1), (2, .int p2), (4, .int r18), (5, .int v5_19)]) rfl rfl (fun _ => subl_c rfl (subl_c rfl (subl_c rfl (subl_c rfl (subl_c rfl (subl_n)))))) (fun v5_19 => ?_)
                  refine s_goto rfl ?_
                  exact s_back (lvL := lvL14) (s' := (r18, v5_19)) (subl_c rfl (subl_c rfl (subl_c rfl (subl_c rfl (subl_c rfl (subl_n)))))) hT17 (fun _ _ h => h)
                · refine s_ic1 rfl (zc_ge1 h16) ?_
                  refine s_aload rfl rfl ?_
                  refine s_getF rfl hT15 ho0 rfl ?_
                  refine s_getI rfl hT15 (of_9_6 ho0) ?_
                  exact s_retI rfl rfl hT15 (fun _ _ h => h)
        · refine s_ic1 rfl (zc_gt1 h4) ?_
          refine s_const rfl ?_
          exact s_retI rfl rfl hT (fun _ _ h => h)
      · refine s_ic1 rfl (zc_lt1 h3) ?_
        refine s_const rfl ?_
        exact s_retI rfl rfl hT (fun _ _ h => h)
    · refine s_ic1 rfl (zc_gt1 h2) ?_
      refine s_const rfl ?_
      exact s_retI rfl rfl hT (fun _ _ h => h)
  · refine s_ic1 rfl (zc_lt1 h1) ?_
    refine s_const rfl ?_
    exact s_retI rfl rfl hT (fun _ _ h => h)
/-- RugReader.undo()I -/
def sh_94 (o0 : Nat) (w : Wd) : Option (Int32 × Wd) := if wI w o0 9 < 1 then (some ((-1), w)) else (stI w o0 9 ((wI w o0 9) - 1) (fun w2 => cl (sh_71 ((wI w2 o0 8) + (wI w2 o0 9)) 6 w2) (fun r4 w3 => gd (ib r4 6) (cl (sh_72 (o0 + 35) (74 + 8 * ix r4) w3) (fun _ w6 => some (wI w6 o0 9, w6))))))
set_option maxRecDepth 20000 in
set_option maxHeartbeats 4000000 in
theorem ev_94 {d : Nat} (hd : 2 ≤ d) {o0 : Nat} {w : Wd} (hT : TY w) (ho0 : ist o0 9) : sp (sh_94 o0 w) (fun r w' => TY w' ∧ Ev d 94 [.ref o0] w (cvI r) w') := by
  obtain ⟨d, rfl⟩ : ∃ d', d = d' + 1 := ⟨d - 1, by omega⟩
  refine ev_of (M := M94) zin_94 rfl (by decide) rfl (Nat.le_of_ble_eq_true rfl) (Or.inr ⟨o0, _, rfl, ho0⟩) hT ?_
  show sp _ (PP (Ev d) M94 (KR cvI) (0, [(0, .ref o0)], [], w))
  unfold sh_94
  refine s_aload rfl rfl ?_
  refine s_getI rfl hT ho0 ?_
  refine s_const rfl ?_
  refine sp_ite (fun h1 => ?_) (fun h1 => ?_)
  · refine s_ic0 rfl (zc_ge0 h1) ?_
    refine s_const rfl ?_
    exact s_retI rfl rfl hT (fun _ _ h => h)
  · refine s_ic1 rfl (zc_ge1 h1) ?_
    refine s_aload rfl rfl ?_
    refine s_dup rfl rfl ?_
    refine s_getI rfl hT ho0 ?_
    refine s_const rfl ?_
    refine s_bin rfl rfl ?_
    refine s_putI rfl hT ho0 rfl (fun w2 hT2 => ?_)
    refine s_aload rfl rfl ?_
    refine s_getF rfl hT2 ho0 rfl ?_
    refine s_aload rfl rfl ?_
    refine s_getI rfl hT2 ho0 ?_
    refine s_aload rfl rfl ?_
    refine s_getI rfl hT2 ho0 ?_
    refine s_bin rfl rfl ?_
    refine s_const rfl ?_
    refine s_callI [.int ((wI w2 o0 8) + (wI w2 o0 9)), .int 6] [.ref (o0 + 43)] rfl rfl (Nat.le_of_ble_eq_true rfl) (ev_71 (d := d) (by omega) hT2 ) (fun r4 w3 hT3 => ?_)
    refine s_earl rfl hT3 ho0 (fun ha5 => ?_)
    refine s_astoreF [(0, .ref o0), (1, .ref (74 + 8 * ix r4))] rfl (subl_c rfl (subl_c rfl (subl_n))) ?_
    refine s_aload rfl rfl ?_
    refine s_null0 rfl ?_
    refine s_aload rfl rfl ?_
    refine s_getF rfl hT3 ho0 rfl ?_
    refine s_aload rfl rfl ?_
    refine s_callV [.ref (o0 + 35), .ref (74 + 8 * ix r4)] [] rfl rfl (Nat.le_of_ble_eq_true rfl) (ev_72 (d := d) (by omega) hT3 (of_9_6 ho0) ha5) (fun _ w6 hT6 => ?_)
    refine s_aload rfl rfl ?_
    refine s_getI rfl hT6 ho0 ?_
    exact s_retI rfl rfl hT6 (fun _ _ h => h)
/-- RugReader$Rug.daysLeft(LRugReader$House;I)I -/
def sh_97 (o0 : Nat) (o1 : Nat) (p2 : Int32) (w : Wd) : Option (Int32 × Wd) := cl (sh_82 o1 w) (fun r2 w1 => cl (sh_71 ((wI w1 o0 0) - p2) 9 w1) (fun r4 w3 => some (r2 - r4, w3)))
set_option maxRecDepth 20000 in
set_option maxHeartbeats 4000000 in
theorem ev_97 {d : Nat} (hd : 2 ≤ d) {o0 : Nat} {o1 : Nat} {p2 : Int32} {w : Wd} (hT : TY w) (ho0 : ist o0 5) (ho1 : ist o1 1) : sp (sh_97 o0 o1 p2 w) (fun r w' => TY w' ∧ Ev d 97 [.ref o0, .ref o1, .int p2] w (cvI r) w') := by
  obtain ⟨d, rfl⟩ : ∃ d', d = d' + 1 := ⟨d - 1, by omega⟩
  refine ev_of (M := M97) zin_97 rfl (by decide) rfl (Nat.le_of_ble_eq_true rfl) (Or.inr ⟨o0, _, rfl, ho0⟩) hT ?_
  show sp _ (PP (Ev d) M97 (KR cvI) (0, [(0, .ref o0), (1, .ref o1), (2, .int p2)], [], w))
  unfold sh_97
  refine s_aload rfl rfl ?_
  refine s_callI [.ref o1] [] rfl rfl (Nat.le_of_ble_eq_true rfl) (ev_82 (d := d) (by omega) hT ho1) (fun r2 w1 hT1 => ?_)
  refine s_aload rfl rfl ?_
  refine s_getI rfl hT1 ho0 ?_
  refine s_iload rfl rfl ?_
  refine s_bin rfl rfl ?_
  refine s_const rfl ?_
  refine s_callI [.int ((wI w1 o0 0) - p2), .int 9] [.int r2] rfl rfl (Nat.le_of_ble_eq_true rfl) (ev_71 (d := d) (by omega) hT1 ) (fun r4 w3 hT3 => ?_)
  refine s_bin rfl rfl ?_
  exact s_retI rfl rfl hT3 (fun _ _ h => h)
/-- RugReader$Rug.lostOn(LRugReader$House;I)I -/
def sh_96 (o0 : Nat) (o1 : Nat) (p2 : Int32) (w : Wd) : Option (Int32 × Wd) := cl (sh_77 p2 w) (fun r2 w1 => if r2 = true then (itM (fun (s13 : Int32 × Int32) (w7 : Wd) => match s13 with | (v3_4, v4_5) => if v4_5 < 9 then (gd (ib ((v4_5 * 144) + p2) 1296) (cl (sh_97 o0 o1 v4_5 w7) (fun r10 w9 => lt (v3_4 + ((wI w7 (o0 + 2) (ix ((v4_5 * 144) + p2))) * r10) : Int32) (fun v3_11 => lt (v4_5 + 1 : Int32) (fun v4_12 => some (.inl (v3_11, v4_12), w9)))))) else (some (.inr (v3_4), w7))) FU (0, 0) w1) else (some (0, w1)))
set_option maxRecDepth 20000 in
set_option maxHeartbeats 4000000 in
theorem ev_96 {d : Nat} (hd : 3 ≤ d) {o0 : Nat} {o1 : Nat} {p2 : Int32} {w : Wd} (hT : TY w) (ho0 : ist o0 5) (ho1 : ist o1 1) : sp (sh_96 o0 o1 p2 w) (fun r w' => TY w' ∧ Ev d 96 [.ref o0, .ref o1, .int p2] w (cvI r) w') := by
  obtain ⟨d, rfl⟩ : ∃ d', d = d' + 1 := ⟨d - 1, by omega⟩
  refine ev_of (M := M96) zin_96 rfl (by decide) rfl (Nat.le_of_ble_eq_true rfl) (Or.inr ⟨o0, _, rfl, ho0⟩) hT ?_
  show sp _ (PP (Ev d) M96 (KR cvI) (0, [(0, .ref o0), (1, .ref o1), (2, .int p2)], [], w))
  unfold sh_96
  refine s_const rfl ?_
  refine s_istoreF [(0, .ref o0), (1, .ref o1), (2, .int p2), (3, .int 0)] rfl (subl_c rfl (subl_c rfl (subl_c rfl (subl_c rfl (subl_n))))) ?_
  refine s_iload rfl rfl ?_
  refine s_callZ [.int p2] [] rfl rfl (Nat.le_of_ble_eq_true rfl) (ev_77 (d := d) (by omega) hT ) (fun r2 w1 hT1 => ?_)
  refine sp_ite (fun h3 => ?_) (fun h3 => ?_)
  · refine s_if0 rfl (zb_eq0 h3) ?_
    refine s_const rfl ?_
    refine s_istoreF [(0, .ref o0), (1, .ref o1), (2, .int p2), (3, .int 0), (4, .int 0)] rfl (subl_c rfl (subl_c rfl (subl_c rfl (subl_c rfl (subl_c rfl (subl_n)))))) ?_
    let lvL6 : Int32 × Int32 → List (Nat × Value) := fun s13 => [(0, .ref o0), (1, .ref o1), (2, .int p2), (3, .int (s13.1)), (4, .int (s13.2))]
    refine s_loop lvL6 (subl_c rfl (subl_c rfl (subl_c rfl (subl_c rfl (subl_c rfl (subl_n)))))) hT1 (fun s13 w7 hT7 => ?_)
    obtain ⟨v3_4, v4_5⟩ := s13
    show sp _ (PP _ _ _ (12, [(0, .ref o0), (1, .ref o1), (2, .int p2), (3, .int v3_4), (4, .int v4_5)], [], w7))
    refine s_iload rfl rfl ?_
    refine s_const rfl ?_
    refine sp_ite (fun h8 => ?_) (fun h8 => ?_)
    · refine s_ic0 rfl (zc_ge0 h8) ?_
      refine s_iload rfl rfl ?_
      refine s_aload rfl rfl ?_
      refine s_getF rfl hT7 ho0 rfl ?_
      refine s_iload rfl rfl ?_
      refine s_const rfl ?_
      refine s_bin rfl rfl ?_
      refine s_iload rfl rfl ?_
      refine s_bin rfl rfl ?_
      refine s_iald rfl hT7 (of_5_2 ho0) ?_
      refine s_aload rfl rfl ?_
      refine s_aload rfl rfl ?_
      refine s_iload rfl rfl ?_
      refine s_callI [.ref o0, .ref o1, .int v4_5] [.int (wI w7 (o0 + 2) (ix ((v4_5 * 144) + p2))), .int v3_4] rfl rfl (Nat.le_of_ble_eq_true rfl) (ev_97 (d := d) (by omega) hT7 ho0 ho1) (fun r10 w9 hT9 => ?_)
      refine s_bin rfl rfl ?_
      refine s_bin rfl rfl ?_
      refine s_nmI (fun v3_11 => ?_)
      refine s_istoreF [(0, .ref o0), (1, .ref o1), (2, .int p2), (3, .int v3_11), (4, .int v4_5)] rfl (subl_c rfl (subl_c rfl (subl_c rfl (subl_c rfl (subl_c rfl (subl_n)))))) ?_
      refine s_iincF (fun v4_12 => [(0, .ref o0), (1, .ref o1), (2, .int p2), (3, .int v3_11), (4, .int v4_12)]) rfl rfl (fun _ => subl_c rfl (subl_c rfl (subl_c rfl (subl_c rfl (subl_c rfl (subl_n)))))) (fun v4_12 => ?_)
      refine s_goto rfl ?_
      exact s_back (lvL := lvL6) (s' := (v3_11, v4_12)) (subl_c rfl (subl_c rfl (subl_c rfl (subl_c rfl (subl_c rfl (subl_n)))))) hT9 (fun _ _ h => h)
    · refine s_ic1 rfl (zc_ge1 h8) ?_
      refine s_iload rfl rfl ?_
      exact s_retI rfl rfl hT7 (fun _ _ h => h)
  · refine s_if1 rfl (zb_eq1 h3) ?_
    refine s_iload rfl rfl ?_
    exact s_retI rfl rfl hT1 (fun _ _ h => h)
/-- RugReader.hidden(I)I -/
def sh_95 (o0 : Nat) (p1 : Int32) (w : Wd) : Option (Int32 × Wd) := itM (fun (s17 : Int32 × Int32) (w4 : Wd) => match s17 with | (v2_1, v3_2) => if v3_2 < 144 then (der (wR w4 o0 2) (fun a6 => cl (sh_96 (o0 + 35) a6 v3_2 w4) (fun r8 w7 => if r8 = 0 then (lt (v3_2 + 1 : Int32) (fun v3_10 => some (.inl (v2_1, v3_10), w7))) else (if v2_1 = p1 then (some (.inr (v3_2), w7)) else (lt (v2_1 + 1 : Int32) (fun v2_12 => lt (v3_2 + 1 : Int32) (fun v3_13 => some (.inl (v2_12, v3_13), w7)))))))) else (lt (if p1 = (-1) then v2_1 else (-1) : Int32) (fun z14 => some (.inr (z14), w4)))) FU (0, 0) w
set_option maxRecDepth 20000 in
set_option maxHeartbeats 4000000 in
theorem ev_95 {d : Nat} (hd : 4 ≤ d) {o0 : Nat} {p1 : Int32} {w : Wd} (hT : TY w) (ho0 : ist o0 9) : sp (sh_95 o0 p1 w) (fun r w' => TY w' ∧ Ev d 95 [.ref o0, .int p1] w (cvI r) w') := by
  obtain ⟨d, rfl⟩ : ∃ d', d = d' + 1 := ⟨d - 1, by omega⟩
  refine ev_of (M := M95) zin_95 rfl (by decide) rfl (Nat.le_of_ble_eq_true rfl) (Or.inr ⟨o0, _, rfl, ho0⟩) hT ?_
  show sp _ (PP (Ev d) M95 (KR cvI) (0, [(0, .ref o0), (1, .int p1)], [], w))
  unfold sh_95
  refine s_const rfl ?_
  refine s_istoreF [(0, .ref o0), (1, .int p1), (2, .int 0)] rfl (subl_c rfl (subl_c rfl (subl_c rfl (subl_n)))) ?_
  refine s_const rfl ?_
  refine s_istoreF [(0, .ref o0), (1, .int p1), (2, .int 0), (3, .int 0)] rfl (subl_c rfl (subl_c rfl (subl_c rfl (subl_c rfl (subl_n))))) ?_
  let lvL3 : Int32 × Int32 → List (Nat × Value) := fun s17 => [(0, .ref o0), (1, .int p1), (2, .int (s17.1)), (3, .int (s17.2))]
  refine s_loop lvL3 (subl_c rfl (subl_c rfl (subl_c rfl (subl_c rfl (subl_n))))) hT (fun s17 w4 hT4 => ?_)
  obtain ⟨v2_1, v3_2⟩ := s17
  show sp _ (PP _ _ _ (4, [(0, .ref o0), (1, .int p1), (2, .int v2_1), (3, .int v3_2)], [], w4))
  refine s_iload rfl rfl ?_
  refine s_const rfl ?_
  refine sp_ite (fun h5 => ?_) (fun h5 => ?_)
  · refine s_ic0 rfl (zc_ge0 h5) ?_
    refine s_aload rfl rfl ?_
    refine s_getF rfl hT4 ho0 rfl ?_
    refine s_aload rfl rfl ?_
    refine s_getD rfl hT4 ho0 (by decide) rfl (fun a6 ha6 => ?_)
    refine s_iload rfl rfl ?_
    refine s_callI [.ref (o0 + 35), .ref a6, .int v3_2] [] rfl rfl (Nat.le_of_ble_eq_true rfl) (ev_96 (d := d) (by omega) hT4 (of_9_6 ho0) ha6) (fun r8 w7 hT7 => ?_)
    refine sp_ite (fun h9 => ?_) (fun h9 => ?_)
    · refine s_if1 rfl (zc_eq1 h9) ?_
      refine s_iincF (fun v3_10 => [(0, .ref o0), (1, .int p1), (2, .int v2_1), (3, .int v3_10)]) rfl rfl (fun _ => subl_c rfl (subl_c rfl (subl_c rfl (subl_c rfl (subl_n))))) (fun v3_10 => ?_)
      refine s_goto rfl ?_
      exact s_back (lvL := lvL3) (s' := (v2_1, v3_10)) (subl_c rfl (subl_c rfl (subl_c rfl (subl_c rfl (subl_n))))) hT7 (fun _ _ h => h)
    · refine s_if0 rfl (zc_eq0 h9) ?_
      refine s_iload rfl rfl ?_
      refine s_iload rfl rfl ?_
      refine sp_ite (fun h11 => ?_) (fun h11 => ?_)
      · refine s_ic0 rfl (zc_ne0 h11) ?_
        refine s_iload rfl rfl ?_
        exact s_retI rfl rfl hT7 (fun _ _ h => h)
      · refine s_ic1 rfl (zc_ne1 h11) ?_
        refine s_iincF (fun v2_12 => [(0, .ref o0), (1, .int p1), (2, .int v2_12), (3, .int v3_2)]) rfl rfl (fun _ => subl_c rfl (subl_c rfl (subl_c rfl (subl_c rfl (subl_n))))) (fun v2_12 => ?_)
        refine s_iincF (fun v3_13 => [(0, .ref o0), (1, .int p1), (2, .int v2_12), (3, .int v3_13)]) rfl rfl (fun _ => subl_c rfl (subl_c rfl (subl_c rfl (subl_c rfl (subl_n))))) (fun v3_13 => ?_)
        refine s_goto rfl ?_
        exact s_back (lvL := lvL3) (s' := (v2_12, v3_13)) (subl_c rfl (subl_c rfl (subl_c rfl (subl_c rfl (subl_n))))) hT7 (fun _ _ h => h)
  · refine s_ic1 rfl (zc_ge1 h5) ?_
    refine s_iload rfl rfl ?_
    refine s_const rfl ?_
    refine sp_lt (fun z14 hz14 => ?_)
    refine s_dia (52, [(0, .ref o0), (1, .int p1), (2, .int v2_1), (3, .int v3_2)], [.int z14], w4) ?_ (fun hk15 => ?_)
    · exact s_retI rfl rfl hT4 (fun _ _ h => h)
    · by_cases h16 : p1 = (-1)
      · refine s_ic0 rfl (zc_ne0 h16) ?_
        refine s_iload rfl rfl ?_
        refine s_goto rfl ?_
        refine s_cong ?_ hk15
        (rw [hz14, if_pos h16])
      · refine s_ic1 rfl (zc_ne1 h16) ?_
        refine s_const rfl ?_
        refine s_cong ?_ hk15
        (rw [hz14, if_neg h16])
/-- RugReader.missing(I)I -/
def sh_98 (o0 : Nat) (p1 : Int32) (w : Wd) : Option (Int32 × Wd) := der (wR w o0 2) (fun a1 => cl (sh_56 a1 p1 w) (fun r3 w2 => if r3 = true then (der (wR w2 o0 2) (fun a5 => cl (sh_96 (o0 + 35) a5 p1 w2) (fun r7 w6 => some (r7, w6)))) else (some ((-1), w2))))
set_option maxRecDepth 20000 in
set_option maxHeartbeats 4000000 in
theorem ev_98 {d : Nat} (hd : 4 ≤ d) {o0 : Nat} {p1 : Int32} {w : Wd} (hT : TY w) (ho0 : ist o0 9) : sp (sh_98 o0 p1 w) (fun r w' => TY w' ∧ Ev d 98 [.ref o0, .int p1] w (cvI r) w') := by
  obtain ⟨d, rfl⟩ : ∃ d', d = d' + 1 := ⟨d - 1, by omega⟩
  refine ev_of (M := M98) zin_98 rfl (by decide) rfl (Nat.le_of_ble_eq_true rfl) (Or.inr ⟨o0, _, rfl, ho0⟩) hT ?_
  show sp _ (PP (Ev d) M98 (KR cvI) (0, [(0, .ref o0), (1, .int p1)], [], w))
  unfold sh_98
  refine s_aload rfl rfl ?_
  refine s_getD rfl hT ho0 (by decide) rfl (fun a1 ha1 => ?_)
  refine s_iload rfl rfl ?_
  refine s_callZ [.ref a1, .int p1] [] rfl rfl (Nat.le_of_ble_eq_true rfl) (ev_56 (d := d) (by omega) hT ha1) (fun r3 w2 hT2 => ?_)
  refine sp_ite (fun h4 => ?_) (fun h4 => ?_)
  · refine s_if0 rfl (zb_eq0 h4) ?_
    refine s_aload rfl rfl ?_
    refine s_getF rfl hT2 ho0 rfl ?_
    refine s_aload rfl rfl ?_
    refine s_getD rfl hT2 ho0 (by decide) rfl (fun a5 ha5 => ?_)
    refine s_iload rfl rfl ?_
    refine s_callI [.ref (o0 + 35), .ref a5, .int p1] [] rfl rfl (Nat.le_of_ble_eq_true rfl) (ev_96 (d := d) (by omega) hT2 (of_9_6 ho0) ha5) (fun r7 w6 hT6 => ?_)
    refine s_goto rfl ?_
    exact s_retI rfl rfl hT6 (fun _ _ h => h)
  · refine s_if1 rfl (zb_eq1 h4) ?_
    refine s_const rfl ?_
    exact s_retI rfl rfl hT2 (fun _ _ h => h)
/-- RugReader$Rug.soleOn(I)I -/
def sh_100 (o0 : Nat) (p1 : Int32) (w : Wd) : Option (Int32 × Wd) := cl (sh_87 o0 p1 w) (fun r2 w1 => if r2 = true then (gd (ib p1 144) (some (wI w1 (o0 + 4) (ix p1), w1))) else (some ((-1), w1)))
set_option maxRecDepth 20000 in
set_option maxHeartbeats 4000000 in
theorem ev_100 {d : Nat} (hd : 3 ≤ d) {o0 : Nat} {p1 : Int32} {w : Wd} (hT : TY w) (ho0 : ist o0 5) : sp (sh_100 o0 p1 w) (fun r w' => TY w' ∧ Ev d 100 [.ref o0, .int p1] w (cvI r) w') := by
  obtain ⟨d, rfl⟩ : ∃ d', d = d' + 1 := ⟨d - 1, by omega⟩
  refine ev_of (M := M100) zin_100 rfl (by decide) rfl (Nat.le_of_ble_eq_true rfl) (Or.inr ⟨o0, _, rfl, ho0⟩) hT ?_
  show sp _ (PP (Ev d) M100 (KR cvI) (0, [(0, .ref o0), (1, .int p1)], [], w))
  unfold sh_100
  refine s_aload rfl rfl ?_
  refine s_iload rfl rfl ?_
  refine s_callZ [.ref o0, .int p1] [] rfl rfl (Nat.le_of_ble_eq_true rfl) (ev_87 (d := d) (by omega) hT ho0) (fun r2 w1 hT1 => ?_)
  refine sp_ite (fun h3 => ?_) (fun h3 => ?_)
  · refine s_if0 rfl (zb_eq0 h3) ?_
    refine s_aload rfl rfl ?_
    refine s_getF rfl hT1 ho0 rfl ?_
    refine s_iload rfl rfl ?_
    refine s_iald rfl hT1 (of_5_4 ho0) ?_
    refine s_goto rfl ?_
    exact s_retI rfl rfl hT1 (fun _ _ h => h)
  · refine s_if1 rfl (zb_eq1 h3) ?_
    refine s_const rfl ?_
    exact s_retI rfl rfl hT1 (fun _ _ h => h)
/-- RugReader.soles(I)I -/
def sh_99 (o0 : Nat) (p1 : Int32) (w : Wd) : Option (Int32 × Wd) := itM (fun (s16 : Int32 × Int32) (w4 : Wd) => match s16 with | (v2_1, v3_2) => if v3_2 < 144 then (cl (sh_87 (o0 + 35) v3_2 w4) (fun r7 w6 => if r7 = true then (cl (sh_100 (o0 + 35) v3_2 w6) (fun r10 w9 => if r10 = p1 then (lt (v2_1 + 1 : Int32) (fun v2_12 => lt (v3_2 + 1 : Int32) (fun v3_13 => some (.inl (v2_12, v3_13), w9)))) else (lt (v3_2 + 1 : Int32) (fun v3_14 => some (.inl (v2_1, v3_14), w9))))) else (lt (v3_2 + 1 : Int32) (fun v3_15 => some (.inl (v2_1, v3_15), w6))))) else (some (.inr (v2_1), w4))) FU (0, 0) w
set_option maxRecDepth 20000 in
set_option maxHeartbeats 4000000 in
theorem ev_99 {d : Nat} (hd : 4 ≤ d) {o0 : Nat} {p1 : Int32} {w : Wd} (hT : TY w) (ho0 : ist o0 9) : sp (sh_99 o0 p1 w) (fun r w' => TY w' ∧ Ev d 99 [.ref o0, .int p1] w (cvI r) w') := by
  obtain ⟨d, rfl⟩ : ∃ d', d = d' + 1 := ⟨d - 1, by omega⟩
  refine ev_of (M := M99) zin_99 rfl (by decide) rfl (Nat.le_of_ble_eq_true rfl) (Or.inr ⟨o0, _, rfl, ho0⟩) hT ?_
  show sp _ (PP (Ev d) M99 (KR cvI) (0, [(0, .ref o0), (1, .int p1)], [], w))
  unfold sh_99
  refine s_const rfl ?_
  refine s_istoreF [(0, .ref o0), (1, .int p1), (2, .int 0)] rfl (subl_c rfl (subl_c rfl (subl_c rfl (subl_n)))) ?_
  refine s_const rfl ?_
  refine s_istoreF [(0, .ref o0), (1, .int p1), (2, .int 0), (3, .int 0)] rfl (subl_c rfl (subl_c rfl (subl_c rfl (subl_c rfl (subl_n))))) ?_
  let lvL3 : Int32 × Int32 → List (Nat × Value) := fun s16 => [(0, .ref o0), (1, .int p1), (2, .int (s16.1)), (3, .int (s16.2))]
  refine s_loop lvL3 (subl_c rfl (subl_c rfl (subl_c rfl (subl_c rfl (subl_n))))) hT (fun s16 w4 hT4 => ?_)
  obtain ⟨v2_1, v3_2⟩ := s16
  show sp _ (PP _ _ _ (4, [(0, .ref o0), (1, .int p1), (2, .int v2_1), (3, .int v3_2)], [], w4))
  refine s_iload rfl rfl ?_
  refine s_const rfl ?_
  refine sp_ite (fun h5 => ?_) (fun h5 => ?_)
  · refine s_ic0 rfl (zc_ge0 h5) ?_
    refine s_aload rfl rfl ?_
    refine s_getF rfl hT4 ho0 rfl ?_
    refine s_iload rfl rfl ?_
    refine s_callZ [.ref (o0 + 35), .int v3_2] [] rfl rfl (Nat.le_of_ble_eq_true rfl) (ev_87 (d := d) (by omega) hT4 (of_9_6 ho0)) (fun r7 w6 hT6 => ?_)
    refine sp_ite (fun h8 => ?_) (fun h8 => ?_)
    · refine s_if0 rfl (zb_eq0 h8) ?_
      refine s_aload rfl rfl ?_
      refine s_getF rfl hT6 ho0 rfl ?_
      refine s_iload rfl rfl ?_
      refine s_callI [.ref (o0 + 35), .int v3_2] [] rfl rfl (Nat.le_of_ble_eq_true rfl) (ev_100 (d := d) (by omega) hT6 (of_9_6 ho0)) (fun r10 w9 hT9 => ?_)
      refine s_iload rfl rfl ?_
      refine sp_ite (fun h11 => ?_) (fun h11 => ?_)
      · refine s_ic0 rfl (zc_ne0 h11) ?_
        refine s_iincF (fun v2_12 => [(0, .ref o0), (1, .int p1), (2, .int v2_12), (3, .int v3_2)]) rfl rfl (fun _ => subl_c rfl (subl_c rfl (subl_c rfl (subl_c rfl (subl_n))))) (fun v2_12 => ?_)
        refine s_iincF (fun v3_13 => [(0, .ref o0), (1, .int p1), (2, .int v2_12), (3, .int v3_13)]) rfl rfl (fun _ => subl_c rfl (subl_c rfl (subl_c rfl (subl_c rfl (subl_n))))) (fun v3_13 => ?_)
        refine s_goto rfl ?_
        exact s_back (lvL := lvL3) (s' := (v2_12, v3_13)) (subl_c rfl (subl_c rfl (subl_c rfl (subl_c rfl (subl_n))))) hT9 (fun _ _ h => h)
      · refine s_ic1 rfl (zc_ne1 h11) ?_
        refine s_iincF (fun v3_14 => [(0, .ref o0), (1, .int p1), (2, .int v2_1), (3, .int v3_14)]) rfl rfl (fun _ => subl_c rfl (subl_c rfl (subl_c rfl (subl_c rfl (subl_n))))) (fun v3_14 => ?_)
        refine s_goto rfl ?_
        exact s_back (lvL := lvL3) (s' := (v2_1, v3_14)) (subl_c rfl (subl_c rfl (subl_c rfl (subl_c rfl (subl_n))))) hT9 (fun _ _ h => h)
    · refine s_if1 rfl (zb_eq1 h8) ?_
      refine s_iincF (fun v3_15 => [(0, .ref o0), (1, .int p1), (2, .int v2_1), (3, .int v3_15)]) rfl rfl (fun _ => subl_c rfl (subl_c rfl (subl_c rfl (subl_c rfl (subl_n))))) (fun v3_15 => ?_)
      refine s_goto rfl ?_
      exact s_back (lvL := lvL3) (s' := (v2_1, v3_15)) (subl_c rfl (subl_c rfl (subl_c rfl (subl_c rfl (subl_n))))) hT6 (fun _ _ h => h)
  · refine s_ic1 rfl (zc_ge1 h5) ?_
    refine s_iload rfl rfl ?_
    exact s_retI rfl rfl hT4 (fun _ _ h => h)
/-- RugReader$Rug.depthOn(LRugReader$House;I)I -/
def sh_102 (o0 : Nat) (o1 : Nat) (p2 : Int32) (w : Wd) : Option (Int32 × Wd) := cl (sh_87 o0 p2 w) (fun r2 w1 => if r2 = true then (itM (fun (s15 : Int32 × Int32) (w7 : Wd) => match s15 with | (v3_4, v4_5) => if v4_5 < 9 then (cl (sh_88 o0 o1 v4_5 p2 w7) (fun r10 w9 => cl (sh_97 o0 o1 v4_5 w9) (fun r12 w11 => lt (v3_4 + (r10 * r12) : Int32) (fun v3_13 => lt (v4_5 + 1 : Int32) (fun v4_14 => some (.inl (v3_13, v4_14), w11)))))) else (some (.inr (v3_4), w7))) FU (0, 0) w1) else (some (0, w1)))
set_option maxRecDepth 20000 in
set_option maxHeartbeats 4000000 in
theorem ev_102 {d : Nat} (hd : 4 ≤ d) {o0 : Nat} {o1 : Nat} {p2 : Int32} {w : Wd} (hT : TY w) (ho0 : ist o0 5) (ho1 : ist o1 1) : sp (sh_102 o0 o1 p2 w) (fun r w' => TY w' ∧ Ev d 102 [.ref o0, .ref o1, .int p2] w (cvI r) w') := by
  obtain ⟨d, rfl⟩ : ∃ d', d = d' + 1 := ⟨d - 1, by omega⟩
  refine ev_of (M := M102) zin_102 rfl (by decide) rfl (Nat.le_of_ble_eq_true rfl) (Or.inr ⟨o0, _, rfl, ho0⟩) hT ?_
  show sp _ (PP (Ev d) M102 (KR cvI) (0, [(0, .ref o0), (1, .ref o1), (2, .int p2)], [], w))
  unfold sh_102
  refine s_const rfl ?_
  refine s_istoreF [(0, .ref o0), (1, .ref o1), (2, .int p2), (3, .int 0)] rfl (subl_c rfl (subl_c rfl (subl_c rfl (subl_c rfl (subl_n))))) ?_
  refine s_aload rfl rfl ?_
  refine s_iload rfl rfl ?_
  refine s_callZ [.ref o0, .int p2] [] rfl rfl (Nat.le_of_ble_eq_true rfl) (ev_87 (d := d) (by omega) hT ho0) (fun r2 w1 hT1 => ?_)
  refine sp_ite (fun h3 => ?_) (fun h3 => ?_)
  · refine s_if0 rfl (zb_eq0 h3) ?_
    refine s_const rfl ?_
    refine s_istoreF [(0, .ref o0), (1, .ref o1), (2, .int p2), (3, .int 0), (4, .int 0)] rfl (subl_c rfl (subl_c rfl (subl_c rfl (subl_c rfl (subl_c rfl (subl_n)))))) ?_
    let lvL6 : Int32 × Int32 → List (Nat × Value) := fun s15 => [(0, .ref o0), (1, .ref o1), (2, .int p2), (3, .int (s15.1)), (4, .int (s15.2))]
    refine s_loop lvL6 (subl_c rfl (subl_c rfl (subl_c rfl (subl_c rfl (subl_c rfl (subl_n)))))) hT1 (fun s15 w7 hT7 => ?_)
    obtain ⟨v3_4, v4_5⟩ := s15
    show sp _ (PP _ _ _ (13, [(0, .ref o0), (1, .ref o1), (2, .int p2), (3, .int v3_4), (4, .int v4_5)], [], w7))
    refine s_iload rfl rfl ?_
    refine s_const rfl ?_
    refine sp_ite (fun h8 => ?_) (fun h8 => ?_)
    · refine s_ic0 rfl (zc_ge0 h8) ?_
      refine s_iload rfl rfl ?_
      refine s_aload rfl rfl ?_
      refine s_aload rfl rfl ?_
      refine s_iload rfl rfl ?_
      refine s_iload rfl rfl ?_
      refine s_callI [.ref o0, .ref o1, .int v4_5, .int p2] [.int v3_4] rfl rfl (Nat.le_of_ble_eq_true rfl) (ev_88 (d := d) (by omega) hT7 ho0 ho1) (fun r10 w9 hT9 => ?_)
      refine s_aload rfl rfl ?_
      refine s_aload rfl rfl ?_
      refine s_iload rfl rfl ?_
      refine s_callI [.ref o0, .ref o1, .int v4_5] [.int r10, .int v3_4] rfl rfl (Nat.le_of_ble_eq_true rfl) (ev_97 (d := d) (by omega) hT9 ho0 ho1) (fun r12 w11 hT11 => ?_)
      refine s_bin rfl rfl ?_
      refine s_bin rfl rfl ?_
      refine s_nmI (fun v3_13 => ?_)
      refine s_istoreF [(0, .ref o0), (1, .ref o1), (2, .int p2), (3, .int v3_13), (4, .int v4_5)] rfl (subl_c rfl (subl_c rfl (subl_c rfl (subl_c rfl (subl_c rfl (subl_n)))))) ?_
      refine s_iincF (fun v4_14 => [(0, .ref o0), (1, .ref o1), (2, .int p2), (3, .int v3_13), (4, .int v4_14)]) rfl rfl (fun _ => subl_c rfl (subl_c rfl (subl_c rfl (subl_c rfl (subl_c rfl (subl_n)))))) (fun v4_14 => ?_)
      refine s_goto rfl ?_
      exact s_back (lvL := lvL6) (s' := (v3_13, v4_14)) (subl_c rfl (subl_c rfl (subl_c rfl (subl_c rfl (subl_c rfl (subl_n)))))) hT11 (fun _ _ h => h)
    · refine s_ic1 rfl (zc_ge1 h8) ?_
      refine s_iload rfl rfl ?_
      exact s_retI rfl rfl hT7 (fun _ _ h => h)
  · refine s_if1 rfl (zb_eq1 h3) ?_
    refine s_iload rfl rfl ?_
    exact s_retI rfl rfl hT1 (fun _ _ h => h)
/-- RugReader.deepest()I -/
def sh_101 (o0 : Nat) (w : Wd) : Option (Int32 × Wd) := itM (fun (s13 : Int32 × Int32 × Int32) (w5 : Wd) => match s13 with | (v1_1, v2_2, v3_3) => if v3_3 < 144 then (der (wR w5 o0 2) (fun a7 => cl (sh_102 (o0 + 35) a7 v3_3 w5) (fun r9 w8 => if v2_2 < r9 then (lt (v3_3 + 1 : Int32) (fun v3_11 => some (.inl (v3_3, r9, v3_11), w8))) else (lt (v3_3 + 1 : Int32) (fun v3_12 => some (.inl (v1_1, v2_2, v3_12), w8)))))) else (some (.inr (v1_1), w5))) FU ((-1), 0, 0) w
set_option maxRecDepth 20000 in
set_option maxHeartbeats 4000000 in
theorem ev_101 {d : Nat} (hd : 5 ≤ d) {o0 : Nat} {w : Wd} (hT : TY w) (ho0 : ist o0 9) : sp (sh_101 o0 w) (fun r w' => TY w' ∧ Ev d 101 [.ref o0] w (cvI r) w') := by
  obtain ⟨d, rfl⟩ : ∃ d', d = d' + 1 := ⟨d - 1, by omega⟩
  refine ev_of (M := M101) zin_101 rfl (by decide) rfl (Nat.le_of_ble_eq_true rfl) (Or.inr ⟨o0, _, rfl, ho0⟩) hT ?_
  show sp _ (PP (Ev d) M101 (KR cvI) (0, [(0, .ref o0)], [], w))
  unfold sh_101
  refine s_const rfl ?_
  refine s_istoreF [(0, .ref o0), (1, .int (-1))] rfl (subl_c rfl (subl_c rfl (subl_n))) ?_
  refine s_const rfl ?_
  refine s_istoreF [(0, .ref o0), (1, .int (-1)), (2, .int 0)] rfl (subl_c rfl (subl_c rfl (subl_c rfl (subl_n)))) ?_
  refine s_const rfl ?_
  refine s_istoreF [(0, .ref o0), (1, .int (-1)), (2, .int 0), (3, .int 0)] rfl (subl_c rfl (subl_c rfl (subl_c rfl (subl_c rfl (subl_n))))) ?_
  let lvL4 : Int32 × Int32 × Int32 → List (Nat × Value) := fun s13 => [(0, .ref o0), (1, .int (s13.1)), (2, .int (s13.2.1)), (3, .int (s13.2.2))]
  refine s_loop lvL4 (subl_c rfl (subl_c rfl (subl_c rfl (subl_c rfl (subl_n))))) hT (fun s13 w5 hT5 => ?_)
  obtain ⟨v1_1, v2_2, v3_3⟩ := s13
  show sp _ (PP _ _ _ (6, [(0, .ref o0), (1, .int v1_1), (2, .int v2_2), (3, .int v3_3)], [], w5))
  refine s_iload rfl rfl ?_
  refine s_const rfl ?_
  refine sp_ite (fun h6 => ?_) (fun h6 => ?_)
  · refine s_ic0 rfl (zc_ge0 h6) ?_
    refine s_aload rfl rfl ?_
    refine s_getF rfl hT5 ho0 rfl ?_
    refine s_aload rfl rfl ?_
    refine s_getD rfl hT5 ho0 (by decide) rfl (fun a7 ha7 => ?_)
    refine s_iload rfl rfl ?_
    refine s_callI [.ref (o0 + 35), .ref a7, .int v3_3] [] rfl rfl (Nat.le_of_ble_eq_true rfl) (ev_102 (d := d) (by omega) hT5 (of_9_6 ho0) ha7) (fun r9 w8 hT8 => ?_)
    refine s_istoreF [(0, .ref o0), (1, .int v1_1), (2, .int v2_2), (3, .int v3_3), (4, .int r9)] rfl (subl_c rfl (subl_c rfl (subl_c rfl (subl_c rfl (subl_c rfl (subl_n)))))) ?_
    refine s_iload rfl rfl ?_
    refine s_iload rfl rfl ?_
    refine sp_ite (fun h10 => ?_) (fun h10 => ?_)
    · refine s_ic0 rfl (zc_le0 h10) ?_
      refine s_iload rfl rfl ?_
      refine s_istoreF [(0, .ref o0), (2, .int r9), (3, .int v3_3)] rfl (subl_c rfl (subl_c rfl (subl_c rfl (subl_n)))) ?_
      refine s_iload rfl rfl ?_
      refine s_istoreF [(0, .ref o0), (1, .int v3_3), (2, .int r9), (3, .int v3_3)] rfl (subl_c rfl (subl_c rfl (subl_c rfl (subl_c rfl (subl_n))))) ?_
      refine s_iincF (fun v3_11 => [(0, .ref o0), (1, .int v3_3), (2, .int r9), (3, .int v3_11)]) rfl rfl (fun _ => subl_c rfl (subl_c rfl (subl_c rfl (subl_c rfl (subl_n))))) (fun v3_11 => ?_)
      refine s_goto rfl ?_
      exact s_back (lvL := lvL4) (s' := (v3_3, r9, v3_11)) (subl_c rfl (subl_c rfl (subl_c rfl (subl_c rfl (subl_n))))) hT8 (fun _ _ h => h)
    · refine s_ic1 rfl (zc_le1 h10) ?_
      refine s_iincF (fun v3_12 => [(0, .ref o0), (1, .int v1_1), (2, .int v2_2), (3, .int v3_12)]) rfl rfl (fun _ => subl_c rfl (subl_c rfl (subl_c rfl (subl_c rfl (subl_n))))) (fun v3_12 => ?_)
      refine s_goto rfl ?_
      exact s_back (lvL := lvL4) (s' := (v1_1, v2_2, v3_12)) (subl_c rfl (subl_c rfl (subl_c rfl (subl_c rfl (subl_n))))) hT8 (fun _ _ h => h)
  · refine s_ic1 rfl (zc_ge1 h6) ?_
    refine s_iload rfl rfl ?_
    exact s_retI rfl rfl hT5 (fun _ _ h => h)
/-- RugReader$House.ageOfDepth(II)I -/
def sh_104 (o0 : Nat) (p1 : Int32) (p2 : Int32) (w : Wd) : Option (Int32 × Wd) := cl (sh_89 o0 p1 w) (fun r2 w1 => if 1 ≤ r2 then (if 1 ≤ p2 then (gd (decide (¬ r2 = 0)) (if zrem p2 r2 = 0 then (gd (decide (¬ r2 = 0)) (cl (sh_82 o0 w1) (fun r9 w8 => if r9 < p2 / r2 then (some ((-1), w8)) else (cl (sh_82 o0 w8) (fun r12 w11 => gd (decide (¬ r2 = 0)) (some (r12 - (p2 / r2), w11))))))) else (some ((-1), w1)))) else (some ((-1), w1))) else (some ((-1), w1)))
set_option maxRecDepth 20000 in
set_option maxHeartbeats 4000000 in
theorem ev_104 {d : Nat} (hd : 3 ≤ d) {o0 : Nat} {p1 : Int32} {p2 : Int32} {w : Wd} (hT : TY w) (ho0 : ist o0 1) : sp (sh_104 o0 p1 p2 w) (fun r w' => TY w' ∧ Ev d 104 [.ref o0, .int p1, .int p2] w (cvI r) w') := by
  obtain ⟨d, rfl⟩ : ∃ d', d = d' + 1 := ⟨d - 1, by omega⟩
  refine ev_of (M := M104) zin_104 rfl (by decide) rfl (Nat.le_of_ble_eq_true rfl) (Or.inr ⟨o0, _, rfl, ho0⟩) hT ?_
  show sp _ (PP (Ev d) M104 (KR cvI) (0, [(0, .ref o0), (1, .int p1), (2, .int p2)], [], w))
  unfold sh_104
  refine s_aload rfl rfl ?_
  refine s_iload rfl rfl ?_
  refine s_callI [.ref o0, .int p1] [] rfl rfl (Nat.le_of_ble_eq_true rfl) (ev_89 (d := d) (by omega) hT ho0) (fun r2 w1 hT1 => ?_)
  refine s_istoreF [(0, .ref o0), (2, .int p2), (3, .int r2)] rfl (subl_c rfl (subl_c rfl (subl_c rfl (subl_n)))) ?_
  refine s_iload rfl rfl ?_
  refine s_const rfl ?_
  refine sp_ite (fun h3 => ?_) (fun h3 => ?_)
  · refine s_ic0 rfl (zc_lt0 h3) ?_
    refine s_iload rfl rfl ?_
    refine s_const rfl ?_
    refine sp_ite (fun h4 => ?_) (fun h4 => ?_)
    · refine s_ic0 rfl (zc_lt0 h4) ?_
      refine s_iload rfl rfl ?_
      refine s_iload rfl rfl ?_
      refine sp_gd (fun h5 => ?_)
      refine s_rem rfl (of_decide_eq_true h5) ?_
      refine sp_ite (fun h6 => ?_) (fun h6 => ?_)
      · refine s_if0 rfl (zc_ne0 h6) ?_
        refine s_iload rfl rfl ?_
        refine s_iload rfl rfl ?_
        refine sp_gd (fun h7 => ?_)
        refine s_div rfl (of_decide_eq_true h7) ?_
        refine s_aload rfl rfl ?_
        refine s_callI [.ref o0] [.int (p2 / r2)] rfl rfl (Nat.le_of_ble_eq_true rfl) (ev_82 (d := d) (by omega) hT1 ho0) (fun r9 w8 hT8 => ?_)
        refine sp_ite (fun h10 => ?_) (fun h10 => ?_)
        · refine s_ic0 rfl (zc_le0 h10) ?_
          refine s_const rfl ?_
          exact s_retI rfl rfl hT8 (fun _ _ h => h)
        · refine s_ic1 rfl (zc_le1 h10) ?_
          refine s_aload rfl rfl ?_
          refine s_callI [.ref o0] [] rfl rfl (Nat.le_of_ble_eq_true rfl) (ev_82 (d := d) (by omega) hT8 ho0) (fun r12 w11 hT11 => ?_)
          refine s_iload rfl rfl ?_
          refine s_iload rfl rfl ?_
          refine sp_gd (fun h13 => ?_)
          refine s_div rfl (of_decide_eq_true h13) ?_
          refine s_bin rfl rfl ?_
          exact s_retI rfl rfl hT11 (fun _ _ h => h)
      · refine s_if1 rfl (zc_ne1 h6) ?_
        refine s_const rfl ?_
        exact s_retI rfl rfl hT1 (fun _ _ h => h)
    · refine s_ic1 rfl (zc_lt1 h4) ?_
      refine s_const rfl ?_
      exact s_retI rfl rfl hT1 (fun _ _ h => h)
  · refine s_ic1 rfl (zc_lt1 h3) ?_
    refine s_const rfl ?_
    exact s_retI rfl rfl hT1 (fun _ _ h => h)
/-- RugReader.who(I)I -/
def sh_103 (o0 : Nat) (p1 : Int32) (w : Wd) : Option (Int32 × Wd) := itM (fun (s17 : Int32 × Int32) (w4 : Wd) => match s17 with | (v2_1, v3_2) => der (wR w4 o0 2) (fun a5 => if v3_2 < wI w4 a5 3 then (der (wR w4 o0 2) (fun a7 => cl (sh_104 a7 v3_2 p1 w4) (fun r9 w8 => if r9 = (-1) then (lt (v3_2 + 1 : Int32) (fun v3_11 => some (.inl (v2_1, v3_11), w8))) else (lt (v2_1 ||| (1 <<< (v3_2 &&& 31)) : Int32) (fun v2_12 => lt (v3_2 + 1 : Int32) (fun v3_13 => some (.inl (v2_12, v3_13), w8))))))) else (lt (if v2_1 = 0 then (-1) else v2_1 : Int32) (fun z14 => some (.inr (z14), w4))))) FU (0, 0) w
set_option maxRecDepth 20000 in
set_option maxHeartbeats 4000000 in
theorem ev_103 {d : Nat} (hd : 4 ≤ d) {o0 : Nat} {p1 : Int32} {w : Wd} (hT : TY w) (ho0 : ist o0 9) : sp (sh_103 o0 p1 w) (fun r w' => TY w' ∧ Ev d 103 [.ref o0, .int p1] w (cvI r) w') := by
  obtain ⟨d, rfl⟩ : ∃ d', d = d' + 1 := ⟨d - 1, by omega⟩
  refine ev_of (M := M103) zin_103 rfl (by decide) rfl (Nat.le_of_ble_eq_true rfl) (Or.inr ⟨o0, _, rfl, ho0⟩) hT ?_
  show sp _ (PP (Ev d) M103 (KR cvI) (0, [(0, .ref o0), (1, .int p1)], [], w))
  unfold sh_103
  refine s_const rfl ?_
  refine s_istoreF [(0, .ref o0), (1, .int p1), (2, .int 0)] rfl (subl_c rfl (subl_c rfl (subl_c rfl (subl_n)))) ?_
  refine s_const rfl ?_
  refine s_istoreF [(0, .ref o0), (1, .int p1), (2, .int 0), (3, .int 0)] rfl (subl_c rfl (subl_c rfl (subl_c rfl (subl_c rfl (subl_n))))) ?_
  let lvL3 : Int32 × Int32 → List (Nat × Value) := fun s17 => [(0, .ref o0), (1, .int p1), (2, .int (s17.1)), (3, .int (s17.2))]
  refine s_loop lvL3 (subl_c rfl (subl_c rfl (subl_c rfl (subl_c rfl (subl_n))))) hT (fun s17 w4 hT4 => ?_)
  obtain ⟨v2_1, v3_2⟩ := s17
  show sp _ (PP _ _ _ (4, [(0, .ref o0), (1, .int p1), (2, .int v2_1), (3, .int v3_2)], [], w4))
  refine s_iload rfl rfl ?_
  refine s_aload rfl rfl ?_
  refine s_getD rfl hT4 ho0 (by decide) rfl (fun a5 ha5 => ?_)
  refine s_getI rfl hT4 ha5 ?_
  refine sp_ite (fun h6 => ?_) (fun h6 => ?_)
  · refine s_ic0 rfl (zc_ge0 h6) ?_
    refine s_aload rfl rfl ?_
    refine s_getD rfl hT4 ho0 (by decide) rfl (fun a7 ha7 => ?_)
    refine s_iload rfl rfl ?_
    refine s_iload rfl rfl ?_
    refine s_callI [.ref a7, .int v3_2, .int p1] [] rfl rfl (Nat.le_of_ble_eq_true rfl) (ev_104 (d := d) (by omega) hT4 ha7) (fun r9 w8 hT8 => ?_)
    refine s_const rfl ?_
    refine sp_ite (fun h10 => ?_) (fun h10 => ?_)
    · refine s_ic1 rfl (zc_eq1 h10) ?_
      refine s_iincF (fun v3_11 => [(0, .ref o0), (1, .int p1), (2, .int v2_1), (3, .int v3_11)]) rfl rfl (fun _ => subl_c rfl (subl_c rfl (subl_c rfl (subl_c rfl (subl_n))))) (fun v3_11 => ?_)
      refine s_goto rfl ?_
      exact s_back (lvL := lvL3) (s' := (v2_1, v3_11)) (subl_c rfl (subl_c rfl (subl_c rfl (subl_c rfl (subl_n))))) hT8 (fun _ _ h => h)
    · refine s_ic0 rfl (zc_eq0 h10) ?_
      refine s_iload rfl rfl ?_
      refine s_const rfl ?_
      refine s_iload rfl rfl ?_
      refine s_bin rfl rfl ?_
      refine s_bin rfl rfl ?_
      refine s_nmI (fun v2_12 => ?_)
      refine s_istoreF [(0, .ref o0), (1, .int p1), (2, .int v2_12), (3, .int v3_2)] rfl (subl_c rfl (subl_c rfl (subl_c rfl (subl_c rfl (subl_n))))) ?_
      refine s_iincF (fun v3_13 => [(0, .ref o0), (1, .int p1), (2, .int v2_12), (3, .int v3_13)]) rfl rfl (fun _ => subl_c rfl (subl_c rfl (subl_c rfl (subl_c rfl (subl_n))))) (fun v3_13 => ?_)
      refine s_goto rfl ?_
      exact s_back (lvL := lvL3) (s' := (v2_12, v3_13)) (subl_c rfl (subl_c rfl (subl_c rfl (subl_c rfl (subl_n))))) hT8 (fun _ _ h => h)
  · refine s_ic1 rfl (zc_ge1 h6) ?_
    refine s_iload rfl rfl ?_
    refine sp_lt (fun z14 hz14 => ?_)
    refine s_dia (49, [(0, .ref o0), (1, .int p1), (2, .int v2_1), (3, .int v3_2)], [.int z14], w4) ?_ (fun hk15 => ?_)
    · exact s_retI rfl rfl hT4 (fun _ _ h => h)
    · by_cases h16 : v2_1 = 0
      · refine s_if0 rfl (zc_ne0 h16) ?_
        refine s_const rfl ?_
        refine s_goto rfl ?_
        refine s_cong ?_ hk15
        (rw [hz14, if_pos h16])
      · refine s_if1 rfl (zc_ne1 h16) ?_
        refine s_iload rfl rfl ?_
        refine s_cong ?_ hk15
        (rw [hz14, if_neg h16])
/-- RugReader.age(II)I -/
def sh_105 (o0 : Nat) (p1 : Int32) (p2 : Int32) (w : Wd) : Option (Int32 × Wd) := der (wR w o0 2) (fun a1 => cl (sh_104 a1 p1 p2 w) (fun r3 w2 => some (r3, w2)))
set_option maxRecDepth 20000 in
set_option maxHeartbeats 4000000 in
theorem ev_105 {d : Nat} (hd : 4 ≤ d) {o0 : Nat} {p1 : Int32} {p2 : Int32} {w : Wd} (hT : TY w) (ho0 : ist o0 9) : sp (sh_105 o0 p1 p2 w) (fun r w' => TY w' ∧ Ev d 105 [.ref o0, .int p1, .int p2] w (cvI r) w') := by
  obtain ⟨d, rfl⟩ : ∃ d', d = d' + 1 := ⟨d - 1, by omega⟩
  refine ev_of (M := M105) zin_105 rfl (by decide) rfl (Nat.le_of_ble_eq_true rfl) (Or.inr ⟨o0, _, rfl, ho0⟩) hT ?_
  show sp _ (PP (Ev d) M105 (KR cvI) (0, [(0, .ref o0), (1, .int p1), (2, .int p2)], [], w))
  unfold sh_105
  refine s_aload rfl rfl ?_
  refine s_getD rfl hT ho0 (by decide) rfl (fun a1 ha1 => ?_)
  refine s_iload rfl rfl ?_
  refine s_iload rfl rfl ?_
  refine s_callI [.ref a1, .int p1, .int p2] [] rfl rfl (Nat.le_of_ble_eq_true rfl) (ev_104 (d := d) (by omega) hT ha1) (fun r3 w2 hT2 => ?_)
  exact s_retI rfl rfl hT2 (fun _ _ h => h)
/-- RugReader$Readings.take(LRugReader$Tape;LRugReader$House;)Z -/
def sh_108 (o0 : Nat) (o1 : Nat) (o2 : Nat) (w : Wd) : Option (Bool × Wd) := lt ((wI w o1 1) / 4 : Int32) (fun v3_1 => if zrem (wI w o1 1) 4 = 0 then (if 1 ≤ v3_1 then (if 8 < v3_1 then (some (false, w)) else (stI w o0 1 v3_1 (fun w5 => itM (fun (v4_6 : Int32) (w8 : Wd) => if v4_6 < wI w8 o0 1 then (if v4_6 < 8 then (cl (sh_21 o1 (4 * v4_6) w8) (fun r12 w11 => cl (sh_21 o1 ((4 * v4_6) + 1) w11) (fun r14 w13 => cl (sh_21 o1 ((4 * v4_6) + 3) w13) (fun r16 w15 => if r12 < wI w15 o2 0 then (if r14 < wI w15 o2 1 then (jn (fun (s30 : Unit) (w20 : Wd) => gd (ib v4_6 8) (stI w20 (o0 + 1) (ix v4_6) ((r14 * 12) + r12) (fun w21 => cl (sh_21 o1 ((4 * v4_6) + 2) w21) (fun r23 w22 => gd (ib v4_6 56) (stI w22 (o0 + 6) (ix v4_6) r23 (fun w24 => gd (ib v4_6 56) (stI w24 (o0 + 8) (ix v4_6) (-1) (fun w25 => gd (ib v4_6 8) (stI w25 (o0 + 2) (ix v4_6) r16 (fun w26 => lt (v4_6 + 1 : Int32) (fun v4_27 => some (.inl v4_27, w26)))))))))))) (fun j19 => if 9 < r16 then (if r16 = 255 then (j19 () w15) else (some (.inr (false), w15))) else (j19 () w15))) else (some (.inr (false), w15))) else (some (.inr (false), w15)))))) else (some (.inr (true), w8))) else (some (.inr (true), w8))) FU 0 w5))) else (some (false, w))) else (some (false, w)))
set_option maxRecDepth 20000 in
set_option maxHeartbeats 4000000 in
theorem ev_108 {d : Nat} (hd : 2 ≤ d) {o0 : Nat} {o1 : Nat} {o2 : Nat} {w : Wd} (hT : TY w) (ho0 : ist o0 4) (ho1 : ist o1 7) (ho2 : ist o2 1) : sp (sh_108 o0 o1 o2 w) (fun r w' => TY w' ∧ Ev d 108 [.ref o0, .ref o1, .ref o2] w (cvZ r) w') := by
  obtain ⟨d, rfl⟩ : ∃ d', d = d' + 1 := ⟨d - 1, by omega⟩
  refine ev_of (M := M108) zin_108 rfl (by decide) rfl (Nat.le_of_ble_eq_true rfl) (Or.inr ⟨o0, _, rfl, ho0⟩) hT ?_
  show sp _ (PP (Ev d) M108 (KR cvZ) (0, [(0, .ref o0), (1, .ref o1), (2, .ref o2)], [], w))
  unfold sh_108
  refine s_aload rfl rfl ?_
  refine s_getI rfl hT ho1 ?_
  refine s_const rfl ?_
  refine s_div rfl (by decide) ?_
  refine s_nmI (fun v3_1 => ?_)
  refine s_istoreF [(0, .ref o0), (1, .ref o1), (2, .ref o2), (3, .int v3_1)] rfl (subl_c rfl (subl_c rfl (subl_c rfl (subl_c rfl (subl_n))))) ?_
  refine s_aload rfl rfl ?_
  refine s_getI rfl hT ho1 ?_
  refine s_const rfl ?_
  refine s_rem rfl (by decide) ?_
  refine sp_ite (fun h2 => ?_) (fun h2 => ?_)
  · refine s_if0 rfl (zc_ne0 h2) ?_
    refine s_iload rfl rfl ?_
    refine s_const rfl ?_
    refine sp_ite (fun h3 => ?_) (fun h3 => ?_)
    · refine s_ic0 rfl (zc_lt0 h3) ?_
      refine s_iload rfl rfl ?_
      refine s_const rfl ?_
      refine sp_ite (fun h4 => ?_) (fun h4 => ?_)
      · refine s_ic0 rfl (zc_le0 h4) ?_
        refine s_const rfl ?_
        exact s_retZ (z := false) rfl rfl hT (fun _ _ h => h)
      · refine s_ic1 rfl (zc_le1 h4) ?_
        refine s_aload rfl rfl ?_
        refine s_iload rfl rfl ?_
        refine s_putI rfl hT ho0 rfl (fun w5 hT5 => ?_)
        refine s_const rfl ?_
        refine s_istoreF [(0, .ref o0), (1, .ref o1), (2, .ref o2), (4, .int 0)] rfl (subl_c rfl (subl_c rfl (subl_c rfl (subl_c rfl (subl_n))))) ?_
        let lvL7 : Int32 → List (Nat × Value) := fun s31 => [(0, .ref o0), (1, .ref o1), (2, .ref o2), (4, .int s31)]
        refine s_loop lvL7 (subl_c rfl (subl_c rfl (subl_c rfl (subl_c rfl (subl_n))))) hT5 (fun v4_6 w8 hT8 => ?_)
        show sp _ (PP _ _ _ (37, [(0, .ref o0), (1, .ref o1), (2, .ref o2), (4, .int v4_6)], [], w8))
        refine s_iload rfl rfl ?_
        refine s_aload rfl rfl ?_
        refine s_getI rfl hT8 ho0 ?_
        refine sp_ite (fun h9 => ?_) (fun h9 => ?_)
        · refine s_ic0 rfl (zc_ge0 h9) ?_
          refine s_iload rfl rfl ?_
          refine s_const rfl ?_
          refine sp_ite (fun h10 => ?_) (fun h10 => ?_)
          · refine s_ic0 rfl (zc_ge0 h10) ?_
            refine s_aload rfl rfl ?_
            refine s_const rfl ?_
            refine s_iload rfl rfl ?_
            refine s_bin rfl rfl ?_
            refine s_callI [.ref o1, .int (4 * v4_6)] [] rfl rfl (Nat.le_of_ble_eq_true rfl) (ev_21 (d := d) (by omega) hT8 ho1) (fun r12 w11 hT11 => ?_)
            refine s_istoreF [(0, .ref o0), (1, .ref o1), (2, .ref o2), (4, .int v4_6), (5, .int r12)] rfl (subl_c rfl (subl_c rfl (subl_c rfl (subl_c rfl (subl_c rfl (subl_n)))))) ?_
            refine s_aload rfl rfl ?_
            refine s_const rfl ?_
            refine s_iload rfl rfl ?_
            refine s_bin rfl rfl ?_
            refine s_const rfl ?_
            refine s_bin rfl rfl ?_
            refine s_callI [.ref o1, .int ((4 * v4_6) + 1)] [] rfl rfl (Nat.le_of_ble_eq_true rfl) (ev_21 (d := d) (by omega) hT11 ho1) (fun r14 w13 hT13 => ?_)
            refine s_istoreF [(0, .ref o0), (1, .ref o1), (2, .ref o2), (4, .int v4_6), (5, .int r12), (6, .int r14)] rfl (subl_c rfl (subl_c rfl (subl_c rfl (subl_c rfl (subl_c rfl (subl_c rfl (subl_n))))))) ?_
            refine s_aload rfl rfl ?_
            refine s_const rfl ?_
            refine s_iload rfl rfl ?_
            refine s_bin rfl rfl ?_
            refine s_const rfl ?_
            refine s_bin rfl rfl ?_
            refine s_callI [.ref o1, .int ((4 * v4_6) + 3)] [] rfl rfl (Nat.le_of_ble_eq_true rfl) (ev_21 (d := d) (by omega) hT13 ho1) (fun r16 w15 hT15 => ?_)
            refine s_istoreF [(0, .ref o0), (1, .ref o1), (2, .ref o2), (4, .int v4_6), (5, .int r12), (6, .int r14), (7, .int r16)] rfl (subl_c rfl (subl_c rfl (subl_c rfl (subl_c rfl (subl_c rfl (subl_c rfl (subl_c rfl (subl_n)))))))) ?_
            refine s_iload rfl rfl ?_
            refine s_aload rfl rfl ?_
            refine s_getI rfl hT15 ho2 ?_
            refine sp_ite (fun h17 => ?_) (fun h17 => ?_)
            · refine s_ic0 rfl (zc_ge0 h17) ?_
              refine s_iload rfl rfl ?_
              refine s_aload rfl rfl ?_
              refine s_getI rfl hT15 ho2 ?_
              refine sp_ite (fun h18 => ?_) (fun h18 => ?_)
              · refine s_ic0 rfl (zc_ge0 h18) ?_
                refine s_iload rfl rfl ?_
                refine s_const rfl ?_
                refine s_jnP (fun (s30 : Unit) w => (122, [(0, .ref o0), (1, .ref o1), (2, .ref o2), (4, .int v4_6), (5, .int r12), (6, .int r14), (7, .int r16)], [], w)) (fun s30 w20 hT20 => ?_) (fun j19 hj19 => ?_)
                · show sp _ (PP _ _ _ (122, [(0, .ref o0), (1, .ref o1), (2, .ref o2), (4, .int v4_6), (5, .int r12), (6, .int r14), (7, .int r16)], [], w20))
                  refine s_aload rfl rfl ?_
                  refine s_getF rfl hT20 ho0 rfl ?_
                  refine s_iload rfl rfl ?_
                  refine s_iload rfl rfl ?_
                  refine s_const rfl ?_
                  refine s_bin rfl rfl ?_
                  refine s_iload rfl rfl ?_
                  refine s_bin rfl rfl ?_
                  refine s_iast rfl hT20 (of_4_2 ho0) (fun w21 hT21 => ?_)
                  refine s_aload rfl rfl ?_
                  refine s_getF rfl hT21 ho0 rfl ?_
                  refine s_iload rfl rfl ?_
                  refine s_aload rfl rfl ?_
                  refine s_const rfl ?_
                  refine s_iload rfl rfl ?_
                  refine s_bin rfl rfl ?_
                  refine s_const rfl ?_
                  refine s_bin rfl rfl ?_
                  refine s_callI [.ref o1, .int ((4 * v4_6) + 2)] [.int v4_6, .ref (o0 + 6)] rfl rfl (Nat.le_of_ble_eq_true rfl) (ev_21 (d := d) (by omega) hT21 ho1) (fun r23 w22 hT22 => ?_)
                  refine s_iast rfl hT22 (of_4_7 ho0) (fun w24 hT24 => ?_)
                  refine s_aload rfl rfl ?_
                  refine s_getF rfl hT24 ho0 rfl ?_
                  refine s_iload rfl rfl ?_
                  refine s_const rfl ?_
                  refine s_iast rfl hT24 (of_4_9 ho0) (fun w25 hT25 => ?_)
                  refine s_aload rfl rfl ?_
                  refine s_getF rfl hT25 ho0 rfl ?_
                  refine s_iload rfl rfl ?_
                  refine s_iload rfl rfl ?_
                  refine s_iast rfl hT25 (of_4_3 ho0) (fun w26 hT26 => ?_)
                  refine s_iincF (fun v4_27 => [(0, .ref o0), (1, .ref o1), (2, .ref o2), (4, .int v4_27)]) rfl rfl (fun _ => subl_c rfl (subl_c rfl (subl_c rfl (subl_c rfl (subl_n))))) (fun v4_27 => ?_)
                  refine s_goto rfl ?_
                  exact s_back (lvL := lvL7) (s' := v4_27) (subl_c rfl (subl_c rfl (subl_c rfl (subl_c rfl (subl_n))))) hT26 (fun _ _ h => h)
                · refine sp_ite (fun h28 => ?_) (fun h28 => ?_)
                  · refine s_ic0 rfl (zc_le0 h28) ?_
                    refine s_iload rfl rfl ?_
                    refine s_const rfl ?_
                    refine sp_ite (fun h29 => ?_) (fun h29 => ?_)
                    · refine s_ic1 rfl (zc_eq1 h29) ?_
                      exact s_fgt _ (subl_c rfl (subl_c rfl (subl_c rfl (subl_c rfl (subl_c rfl (subl_c rfl (subl_c rfl (subl_n)))))))) (hj19 () w15 hT15)
                    · refine s_ic0 rfl (zc_eq0 h29) ?_
                      refine s_const rfl ?_
                      exact s_retZ (z := false) rfl rfl hT15 (fun _ _ h => h)
                  · refine s_ic1 rfl (zc_le1 h28) ?_
                    exact s_fgt _ (subl_c rfl (subl_c rfl (subl_c rfl (subl_c rfl (subl_c rfl (subl_c rfl (subl_c rfl (subl_n)))))))) (hj19 () w15 hT15)
              · refine s_ic1 rfl (zc_ge1 h18) ?_
                refine s_const rfl ?_
                exact s_retZ (z := false) rfl rfl hT15 (fun _ _ h => h)
            · refine s_ic1 rfl (zc_ge1 h17) ?_
              refine s_const rfl ?_
              exact s_retZ (z := false) rfl rfl hT15 (fun _ _ h => h)
          · refine s_ic1 rfl (zc_ge1 h10) ?_
            refine s_const rfl ?_
            exact s_retZ (z := true) rfl rfl hT8 (fun _ _ h => h)
        · refine s_ic1 rfl (zc_ge1 h9) ?_
          refine s_const rfl ?_
          exact s_retZ (z := true) rfl rfl hT8 (fun _ _ h => h)
    · refine s_ic1 rfl (zc_lt1 h3) ?_
      refine s_const rfl ?_
      exact s_retZ (z := false) rfl rfl hT (fun _ _ h => h)
  · refine s_if1 rfl (zc_ne1 h2) ?_
    refine s_const rfl ?_
    exact s_retZ (z := false) rfl rfl hT (fun _ _ h => h)
/-- RugReader$Readings.heaviest(LRugReader$House;)I -/
def sh_110 (o0 : Nat) (w : Wd) : Option (Int32 × Wd) := itM (fun (s11 : Int32 × Int32) (w4 : Wd) => match s11 with | (v1_1, v2_2) => if v2_2 < wI w4 o0 3 then (cl (sh_89 o0 v2_2 w4) (fun r7 w6 => cl (sh_85 v1_1 r7 w6) (fun r9 w8 => lt (v2_2 + 1 : Int32) (fun v2_10 => some (.inl (r9, v2_10), w8))))) else (some (.inr (v1_1), w4))) FU (0, 0) w
set_option maxRecDepth 20000 in
set_option maxHeartbeats 4000000 in
theorem ev_110 {d : Nat} (hd : 3 ≤ d) {o0 : Nat} {w : Wd} (hT : TY w) (ho0 : ist o0 1) : sp (sh_110 o0 w) (fun r w' => TY w' ∧ Ev d 110 [.ref o0] w (cvI r) w') := by
  obtain ⟨d, rfl⟩ : ∃ d', d = d' + 1 := ⟨d - 1, by omega⟩
  refine ev_of (M := M110) zin_110 rfl (by decide) rfl (Nat.le_of_ble_eq_true rfl) (Or.inl rfl) hT ?_
  show sp _ (PP (Ev d) M110 (KR cvI) (0, [(0, .ref o0)], [], w))
  unfold sh_110
  refine s_const rfl ?_
  refine s_istoreF [(0, .ref o0), (1, .int 0)] rfl (subl_c rfl (subl_c rfl (subl_n))) ?_
  refine s_const rfl ?_
  refine s_istoreF [(0, .ref o0), (1, .int 0), (2, .int 0)] rfl (subl_c rfl (subl_c rfl (subl_c rfl (subl_n)))) ?_
  let lvL3 : Int32 × Int32 → List (Nat × Value) := fun s11 => [(0, .ref o0), (1, .int (s11.1)), (2, .int (s11.2))]
  refine s_loop lvL3 (subl_c rfl (subl_c rfl (subl_c rfl (subl_n)))) hT (fun s11 w4 hT4 => ?_)
  obtain ⟨v1_1, v2_2⟩ := s11
  show sp _ (PP _ _ _ (4, [(0, .ref o0), (1, .int v1_1), (2, .int v2_2)], [], w4))
  refine s_iload rfl rfl ?_
  refine s_aload rfl rfl ?_
  refine s_getI rfl hT4 ho0 ?_
  refine sp_ite (fun h5 => ?_) (fun h5 => ?_)
  · refine s_ic0 rfl (zc_ge0 h5) ?_
    refine s_iload rfl rfl ?_
    refine s_aload rfl rfl ?_
    refine s_iload rfl rfl ?_
    refine s_callI [.ref o0, .int v2_2] [.int v1_1] rfl rfl (Nat.le_of_ble_eq_true rfl) (ev_89 (d := d) (by omega) hT4 ho0) (fun r7 w6 hT6 => ?_)
    refine s_callI [.int v1_1, .int r7] [] rfl rfl (Nat.le_of_ble_eq_true rfl) (ev_85 (d := d) (by omega) hT6 ) (fun r9 w8 hT8 => ?_)
    refine s_istoreF [(0, .ref o0), (1, .int r9), (2, .int v2_2)] rfl (subl_c rfl (subl_c rfl (subl_c rfl (subl_n)))) ?_
    refine s_iincF (fun v2_10 => [(0, .ref o0), (1, .int r9), (2, .int v2_10)]) rfl rfl (fun _ => subl_c rfl (subl_c rfl (subl_c rfl (subl_n)))) (fun v2_10 => ?_)
    refine s_goto rfl ?_
    exact s_back (lvL := lvL3) (s' := (r9, v2_10)) (subl_c rfl (subl_c rfl (subl_c rfl (subl_n)))) hT8 (fun _ _ h => h)
  · refine s_ic1 rfl (zc_ge1 h5) ?_
    refine s_iload rfl rfl ?_
    exact s_retI rfl rfl hT4 (fun _ _ h => h)
/-- RugReader$House.passes(II)I -/
def sh_111 (o0 : Nat) (p1 : Int32) (p2 : Int32) (w : Wd) : Option (Int32 × Wd) := cl (sh_66 o0 p1 w) (fun r2 w1 => itM (fun (s14 : Int32 × Int32) (w6 : Wd) => match s14 with | (v3_3, v5_4) => if v5_4 < r2 then (cl (sh_65 o0 p1 v5_4 w6) (fun r9 w8 => if r9 = p2 then (lt (v3_3 + 1 : Int32) (fun v3_11 => lt (v5_4 + 1 : Int32) (fun v5_12 => some (.inl (v3_11, v5_12), w8)))) else (lt (v5_4 + 1 : Int32) (fun v5_13 => some (.inl (v3_3, v5_13), w8))))) else (some (.inr (v3_3), w6))) FU (0, 0) w1)
set_option maxRecDepth 20000 in
set_option maxHeartbeats 4000000 in
theorem ev_111 {d : Nat} (hd : 4 ≤ d) {o0 : Nat} {p1 : Int32} {p2 : Int32} {w : Wd} (hT : TY w) (ho0 : ist o0 1) : sp (sh_111 o0 p1 p2 w) (fun r w' => TY w' ∧ Ev d 111 [.ref o0, .int p1, .int p2] w (cvI r) w') := by
  obtain ⟨d, rfl⟩ : ∃ d', d = d' + 1 := ⟨d - 1, by omega⟩
  refine ev_of (M := M111) zin_111 rfl (by decide) rfl (Nat.le_of_ble_eq_true rfl) (Or.inr ⟨o0, _, rfl, ho0⟩) hT ?_
  show sp _ (PP (Ev d) M111 (KR cvI) (0, [(0, .ref o0), (1, .int p1), (2, .int p2)], [], w))
  unfold sh_111
  refine s_const rfl ?_
  refine s_istoreF [(0, .ref o0), (1, .int p1), (2, .int p2), (3, .int 0)] rfl (subl_c rfl (subl_c rfl (subl_c rfl (subl_c rfl (subl_n))))) ?_
  refine s_aload rfl rfl ?_
  refine s_iload rfl rfl ?_
  refine s_callI [.ref o0, .int p1] [] rfl rfl (Nat.le_of_ble_eq_true rfl) (ev_66 (d := d) (by omega) hT ho0) (fun r2 w1 hT1 => ?_)
  refine s_istoreF [(0, .ref o0), (1, .int p1), (2, .int p2), (3, .int 0), (4, .int r2)] rfl (subl_c rfl (subl_c rfl (subl_c rfl (subl_c rfl (subl_c rfl (subl_n)))))) ?_
  refine s_const rfl ?_
  refine s_istoreF [(0, .ref o0), (1, .int p1), (2, .int p2), (3, .int 0), (4, .int r2), (5, .int 0)] rfl (subl_c rfl (subl_c rfl (subl_c rfl (subl_c rfl (subl_c rfl (subl_c rfl (subl_n))))))) ?_
  let lvL5 : Int32 × Int32 → List (Nat × Value) := fun s14 => [(0, .ref o0), (1, .int p1), (2, .int p2), (3, .int (s14.1)), (4, .int r2), (5, .int (s14.2))]
  refine s_loop lvL5 (subl_c rfl (subl_c rfl (subl_c rfl (subl_c rfl (subl_c rfl (subl_c rfl (subl_n))))))) hT1 (fun s14 w6 hT6 => ?_)
  obtain ⟨v3_3, v5_4⟩ := s14
  show sp _ (PP _ _ _ (12, [(0, .ref o0), (1, .int p1), (2, .int p2), (3, .int v3_3), (4, .int r2), (5, .int v5_4)], [], w6))
  refine s_iload rfl rfl ?_
  refine s_iload rfl rfl ?_
  refine sp_ite (fun h7 => ?_) (fun h7 => ?_)
  · refine s_ic0 rfl (zc_ge0 h7) ?_
    refine s_aload rfl rfl ?_
    refine s_iload rfl rfl ?_
    refine s_iload rfl rfl ?_
    refine s_callI [.ref o0, .int p1, .int v5_4] [] rfl rfl (Nat.le_of_ble_eq_true rfl) (ev_65 (d := d) (by omega) hT6 ho0) (fun r9 w8 hT8 => ?_)
    refine s_iload rfl rfl ?_
    refine sp_ite (fun h10 => ?_) (fun h10 => ?_)
    · refine s_ic0 rfl (zc_ne0 h10) ?_
      refine s_iincF (fun v3_11 => [(0, .ref o0), (1, .int p1), (2, .int p2), (3, .int v3_11), (4, .int r2), (5, .int v5_4)]) rfl rfl (fun _ => subl_c rfl (subl_c rfl (subl_c rfl (subl_c rfl (subl_c rfl (subl_c rfl (subl_n))))))) (fun v3_11 => ?_)
      refine s_iincF (fun v5_12 => [(0, .ref o0), (1, .int p1), (2, .int p2), (3, .int v3_11), (4, .int r2), (5, .int v5_12)]) rfl rfl (fun _ => subl_c rfl (subl_c rfl (subl_c rfl (subl_c rfl (subl_c rfl (subl_c rfl (subl_n))))))) (fun v5_12 => ?_)
      refine s_goto rfl ?_
      exact s_back (lvL := lvL5) (s' := (v3_11, v5_12)) (subl_c rfl (subl_c rfl (subl_c rfl (subl_c rfl (subl_c rfl (subl_c rfl (subl_n))))))) hT8 (fun _ _ h => h)
    · refine s_ic1 rfl (zc_ne1 h10) ?_
      refine s_iincF (fun v5_13 => [(0, .ref o0), (1, .int p1), (2, .int p2), (3, .int v3_3), (4, .int r2), (5, .int v5_13)]) rfl rfl (fun _ => subl_c rfl (subl_c rfl (subl_c rfl (subl_c rfl (subl_c rfl (subl_c rfl (subl_n))))))) (fun v5_13 => ?_)
      refine s_goto rfl ?_
      exact s_back (lvL := lvL5) (s' := (v3_3, v5_13)) (subl_c rfl (subl_c rfl (subl_c rfl (subl_c rfl (subl_c rfl (subl_c rfl (subl_n))))))) hT8 (fun _ _ h => h)
  · refine s_ic1 rfl (zc_ge1 h7) ?_
    refine s_iload rfl rfl ?_
    exact s_retI rfl rfl hT6 (fun _ _ h => h)
/-- RugReader$Readings.lookAtWays(LRugReader$House;)V -/
def sh_109 (o0 : Nat) (o1 : Nat) (w : Wd) : Option (Unit × Wd) := cl (sh_110 o1 w) (fun r2 w1 => cl (sh_82 o1 w1) (fun r4 w3 => lt (r2 * r4 : Int32) (fun v2_5 => itM (fun (v3_6 : Int32) (w8 : Wd) => if v3_6 < 8 then (gd (ib v3_6 8) (stI w8 (o0 + 3) (ix v3_6) (-1) (fun w10 => gd (ib (48 + v3_6) 56) (stI w10 (o0 + 7) (ix (48 + v3_6)) 0 (fun w11 => lt (v3_6 + 1 : Int32) (fun v3_12 => some (.inl v3_12, w11))))))) else (itM (fun (v3_13 : Int32) (w15 : Wd) => if 0 ≤ v3_13 then (gd (ib v3_13 6) (stI w15 (o0 + 5) (ix v3_13) 1 (fun w17 => itM (fun (v4_18 : Int32) (w20 : Wd) => if v4_18 < wI w20 o0 1 then (if v4_18 < 8 then (lt ((v3_13 * 8) + v4_18 : Int32) (fun v5_23 => gd (ib v4_18 8) (cl (sh_111 o1 v3_13 (wI w20 (o0 + 1) (ix v4_18)) w20) (fun r25 w24 => gd (ib v5_23 48) (stI w24 (o0 + 4) (ix v5_23) r25 (fun w26 => gd (ib (v5_23 + 8) 56) (gd (ib v5_23 48) (gd (ib v5_23 56) (stI w26 (o0 + 7) (ix v5_23) ((wI w26 (o0 + 7) (ix (v5_23 + 8))) + ((wI w26 (o0 + 4) (ix v5_23)) * v2_5)) (fun w27 => gd (ib v5_23 48) (if 0 < wI w27 (o0 + 4) (ix v5_23) then (gd (ib v3_13 6) (stI w27 (o0 + 5) (ix v3_13) 0 (fun w29 => gd (ib v4_18 8) (cl (sh_85 (wI w29 (o0 + 3) (ix v4_18)) v3_13 w29) (fun r31 w30 => gd (ib v4_18 8) (stI w30 (o0 + 3) (ix v4_18) r31 (fun w32 => lt (v4_18 + 1 : Int32) (fun v4_33 => some (.inl v4_33, w32))))))))) else (lt (v4_18 + 1 : Int32) (fun v4_34 => some (.inl v4_34, w27)))))))))))))) else (lt (v3_13 + (-1) : Int32) (fun v3_35 => some (.inr (.inl v3_35), w20)))) else (lt (v3_13 + (-1) : Int32) (fun v3_36 => some (.inr (.inl v3_36), w20)))) FU 0 w17))) else (some (.inr (.inr (())), w15))) FU 5 w8)) FU 0 w3)))
set_option maxRecDepth 20000 in
set_option maxHeartbeats 4000000 in
theorem ev_109 {d : Nat} (hd : 5 ≤ d) {o0 : Nat} {o1 : Nat} {w : Wd} (hT : TY w) (ho0 : ist o0 4) (ho1 : ist o1 1) : sp (sh_109 o0 o1 w) (fun r w' => TY w' ∧ Ev d 109 [.ref o0, .ref o1] w (cvV r) w') := by
  obtain ⟨d, rfl⟩ : ∃ d', d = d' + 1 := ⟨d - 1, by omega⟩
  refine ev_of (M := M109) zin_109 rfl (by decide) rfl (Nat.le_of_ble_eq_true rfl) (Or.inr ⟨o0, _, rfl, ho0⟩) hT ?_
  show sp _ (PP (Ev d) M109 (KR cvV) (0, [(0, .ref o0), (1, .ref o1)], [], w))
  unfold sh_109
  refine s_aload rfl rfl ?_
  refine s_callI [.ref o1] [] rfl rfl (Nat.le_of_ble_eq_true rfl) (ev_110 (d := d) (by omega) hT ho1) (fun r2 w1 hT1 => ?_)
  refine s_aload rfl rfl ?_
  refine s_callI [.ref o1] [.int r2] rfl rfl (Nat.le_of_ble_eq_true rfl) (ev_82 (d := d) (by omega) hT1 ho1) (fun r4 w3 hT3 => ?_)
  refine s_bin rfl rfl ?_
  refine s_nmI (fun v2_5 => ?_)
  refine s_istoreF [(0, .ref o0), (1, .ref o1), (2, .int v2_5)] rfl (subl_c rfl (subl_c rfl (subl_c rfl (subl_n)))) ?_
  refine s_const rfl ?_
  refine s_istoreF [(0, .ref o0), (1, .ref o1), (2, .int v2_5), (3, .int 0)] rfl (subl_c rfl (subl_c rfl (subl_c rfl (subl_c rfl (subl_n))))) ?_
  let lvL7 : Int32 → List (Nat × Value) := fun s39 => [(0, .ref o0), (1, .ref o1), (2, .int v2_5), (3, .int s39)]
  refine s_loop lvL7 (subl_c rfl (subl_c rfl (subl_c rfl (subl_c rfl (subl_n))))) hT3 (fun v3_6 w8 hT8 => ?_)
  show sp _ (PP _ _ _ (12, [(0, .ref o0), (1, .ref o1), (2, .int v2_5), (3, .int v3_6)], [], w8))
  refine s_iload rfl rfl ?_
  refine s_const rfl ?_
  refine sp_ite (fun h9 => ?_) (fun h9 => ?_)
  · refine s_ic0 rfl (zc_ge0 h9) ?_
    refine s_aload rfl rfl ?_
    refine s_getF rfl hT8 ho0 rfl ?_
    refine s_iload rfl rfl ?_
    refine s_const rfl ?_
    refine s_iast rfl hT8 (of_4_4 ho0) (fun w10 hT10 => ?_)
    refine s_aload rfl rfl ?_
    refine s_getF rfl hT10 ho0 rfl ?_
    refine s_const rfl ?_
    refine s_iload rfl rfl ?_
    refine s_bin rfl rfl ?_
    refine s_const rfl ?_
    refine s_iast rfl hT10 (of_4_8 ho0) (fun w11 hT11 => ?_)
    refine s_iincF (fun v3_12 => [(0, .ref o0), (1, .ref o1), (2, .int v2_5), (3, .int v3_12)]) rfl rfl (fun _ => subl_c rfl (subl_c rfl (subl_c rfl (subl_c rfl (subl_n))))) (fun v3_12 => ?_)
    refine s_goto rfl ?_
    exact s_back (lvL := lvL7) (s' := v3_12) (subl_c rfl (subl_c rfl (subl_c rfl (subl_c rfl (subl_n))))) hT11 (fun _ _ h => h)
  · refine s_ic1 rfl (zc_ge1 h9) ?_
    refine s_const rfl ?_
    refine s_istoreF [(0, .ref o0), (1, .ref o1), (2, .int v2_5), (3, .int 5)] rfl (subl_c rfl (subl_c rfl (subl_c rfl (subl_c rfl (subl_n))))) ?_
    let lvL14 : Int32 → List (Nat × Value) := fun s38 => [(0, .ref o0), (1, .ref o1), (2, .int v2_5), (3, .int s38)]
    refine s_loop lvL14 (subl_c rfl (subl_c rfl (subl_c rfl (subl_c rfl (subl_n))))) hT8 (fun v3_13 w15 hT15 => ?_)
    show sp _ (PP _ _ _ (43, [(0, .ref o0), (1, .ref o1), (2, .int v2_5), (3, .int v3_13)], [], w15))
    refine s_iload rfl rfl ?_
    refine sp_ite (fun h16 => ?_) (fun h16 => ?_)
    · refine s_if0 rfl (zc_lt0 h16) ?_
      refine s_aload rfl rfl ?_
      refine s_getF rfl hT15 ho0 rfl ?_
      refine s_iload rfl rfl ?_
      refine s_const rfl ?_
      refine s_zast rfl hT15 (of_4_6 ho0) rfl (fun w17 hT17 => ?_)
      refine s_const rfl ?_
      refine s_istoreF [(0, .ref o0), (1, .ref o1), (2, .int v2_5), (3, .int v3_13), (4, .int 0)] rfl (subl_c rfl (subl_c rfl (subl_c rfl (subl_c rfl (subl_c rfl (subl_n)))))) ?_
      let lvL19 : Int32 → List (Nat × Value) := fun s37 => [(0, .ref o0), (1, .ref o1), (2, .int v2_5), (3, .int v3_13), (4, .int s37)]
      refine s_loop lvL19 (subl_c rfl (subl_c rfl (subl_c rfl (subl_c rfl (subl_c rfl (subl_n)))))) hT17 (fun v4_18 w20 hT20 => ?_)
      show sp _ (PP _ _ _ (57, [(0, .ref o0), (1, .ref o1), (2, .int v2_5), (3, .int v3_13), (4, .int v4_18)], [], w20))
      refine s_iload rfl rfl ?_
      refine s_aload rfl rfl ?_
      refine s_getI rfl hT20 ho0 ?_
      refine sp_ite (fun h21 => ?_) (fun h21 => ?_)
      · refine s_ic0 rfl (zc_ge0 h21) ?_
        refine s_iload rfl rfl ?_
        refine s_const rfl ?_
        refine sp_ite (fun h22 => ?_) (fun h22 => ?_)
        · refine s_ic0 rfl (zc_ge0 h22) ?_
          refine s_iload rfl rfl ?_
          refine s_const rfl ?_
          refine s_bin rfl rfl ?_
          refine s_iload rfl rfl ?_
          refine s_bin rfl rfl ?_
          refine s_nmI (fun v5_23 => ?_)
          refine s_istoreF [(0, .ref o0), (1, .ref o1), (2, .int v2_5), (3, .int v3_13), (4, .int v4_18), (5, .int v5_23)] rfl (subl_c rfl (subl_c rfl (subl_c rfl (subl_c rfl (subl_c rfl (subl_c rfl (subl_n))))))) ?_
          refine s_aload rfl rfl ?_
          refine s_getF rfl hT20 ho0 rfl ?_
          refine s_iload rfl rfl ?_
          refine s_aload rfl rfl ?_
          refine s_iload rfl rfl ?_
          refine s_aload rfl rfl ?_
          refine s_getF rfl hT20 ho0 rfl ?_
          refine s_iload rfl rfl ?_
          refine s_iald rfl hT20 (of_4_2 ho0) ?_
          refine s_callI [.ref o1, .int v3_13, .int (wI w20 (o0 + 1) (ix v4_18))] [.int v5_23, .ref (o0 + 4)] rfl rfl (Nat.le_of_ble_eq_true rfl) (ev_111 (d := d) (by omega) hT20 ho1) (fun r25 w24 hT24 => ?_)
          refine s_iast rfl hT24 (of_4_5 ho0) (fun w26 hT26 => ?_)
          refine s_aload rfl rfl ?_
          refine s_getF rfl hT26 ho0 rfl ?_
          refine s_iload rfl rfl ?_
          refine s_aload rfl rfl ?_
          refine s_getF rfl hT26 ho0 rfl ?_
          refine s_iload rfl rfl ?_
          refine s_const rfl ?_
          refine s_bin rfl rfl ?_
          refine s_iald rfl hT26 (of_4_8 ho0) ?_
          refine s_aload rfl rfl ?_
          refine s_getF rfl hT26 ho0 rfl ?_
          refine s_iload rfl rfl ?_
          refine s_iald rfl hT26 (of_4_5 ho0) ?_
          refine s_iload rfl rfl ?_
          refine s_bin rfl rfl ?_
          refine s_bin rfl rfl ?_
          refine s_iast rfl hT26 (of_4_8 ho0) (fun w27 hT27 => ?_)
          refine s_aload rfl rfl ?_
          refine s_getF rfl hT27 ho0 rfl ?_
          refine s_iload rfl rfl ?_
          refine s_iald rfl hT27 (of_4_5 ho0) ?_
          refine sp_ite (fun h28 => ?_) (fun h28 => ?_)
          · refine s_if0 rfl (zc_le0 h28) ?_
            refine s_aload rfl rfl ?_
            refine s_getF rfl hT27 ho0 rfl ?_
            refine s_iload rfl rfl ?_
            refine s_const rfl ?_
            refine s_zast rfl hT27 (of_4_6 ho0) rfl (fun w29 hT29 => ?_)
            refine s_aload rfl rfl ?_
            refine s_getF rfl hT29 ho0 rfl ?_
            refine s_iload rfl rfl ?_
            refine s_aload rfl rfl ?_
            refine s_getF rfl hT29 ho0 rfl ?_
            refine s_iload rfl rfl ?_
            refine s_iald rfl hT29 (of_4_4 ho0) ?_
            refine s_iload rfl rfl ?_
            refine s_callI [.int (wI w29 (o0 + 3) (ix v4_18)), .int v3_13] [.int v4_18, .ref (o0 + 3)] rfl rfl (Nat.le_of_ble_eq_true rfl) (ev_85 (d := d) (by omega) hT29 ) (fun r31 w30 hT30 => ?_)
            refine s_iast rfl hT30 (of_4_4 ho0) (fun w32 hT32 => ?_)
            refine s_iincF (fun v4_33 => [(0, .ref o0), (1, .ref o1), (2, .int v2_5), (3, .int v3_13), (4, .int v4_33)]) rfl rfl (fun _ => subl_c rfl (subl_c rfl (subl_c rfl (subl_c rfl (subl_c rfl (subl_n)))))) (fun v4_33 => ?_)
            refine s_goto rfl ?_
            exact s_back (lvL := lvL19) (s' := v4_33) (subl_c rfl (subl_c rfl (subl_c rfl (subl_c rfl (subl_c rfl (subl_n)))))) hT32 (fun _ _ h => h)
          · refine s_if1 rfl (zc_le1 h28) ?_
            refine s_iincF (fun v4_34 => [(0, .ref o0), (1, .ref o1), (2, .int v2_5), (3, .int v3_13), (4, .int v4_34)]) rfl rfl (fun _ => subl_c rfl (subl_c rfl (subl_c rfl (subl_c rfl (subl_c rfl (subl_n)))))) (fun v4_34 => ?_)
            refine s_goto rfl ?_
            exact s_back (lvL := lvL19) (s' := v4_34) (subl_c rfl (subl_c rfl (subl_c rfl (subl_c rfl (subl_c rfl (subl_n)))))) hT27 (fun _ _ h => h)
        · refine s_ic1 rfl (zc_ge1 h22) ?_
          refine s_iincF (fun v3_35 => [(0, .ref o0), (1, .ref o1), (2, .int v2_5), (3, .int v3_35)]) rfl rfl (fun _ => subl_c rfl (subl_c rfl (subl_c rfl (subl_c rfl (subl_n))))) (fun v3_35 => ?_)
          refine s_goto rfl ?_
          exact s_back (lvL := lvL14) (s' := v3_35) (subl_c rfl (subl_c rfl (subl_c rfl (subl_c rfl (subl_n))))) hT20 (fun _ _ h => h)
      · refine s_ic1 rfl (zc_ge1 h21) ?_
        refine s_iincF (fun v3_36 => [(0, .ref o0), (1, .ref o1), (2, .int v2_5), (3, .int v3_36)]) rfl rfl (fun _ => subl_c rfl (subl_c rfl (subl_c rfl (subl_c rfl (subl_n))))) (fun v3_36 => ?_)
        refine s_goto rfl ?_
        exact s_back (lvL := lvL14) (s' := v3_36) (subl_c rfl (subl_c rfl (subl_c rfl (subl_c rfl (subl_n))))) hT20 (fun _ _ h => h)
    · refine s_if1 rfl (zc_lt1 h16) ?_
      exact s_retV rfl rfl hT15 (fun _ _ h => h)
