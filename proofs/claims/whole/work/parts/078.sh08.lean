/-! printed by program (wip/whole/gen/sh.py): the methods as programs over worlds, and that the small machine does what they say -/
/-- RugReaderModel.days(I)I -/
def sh_227 (o0 : Nat) (p1 : Int32) (w : Wd) : Option (Int32 × Wd) := stI w o0 0 0 (fun w1 => cl (sh_199 p1 1 20 w1) (fun r3 w2 => if r3 = true then (gd (ib 429 10265) (if 999 < (wI w2 (o0 + 2) (ix 429)) + p1 then (some ((-1), w2)) else (cl (sh_224 o0 w2) (fun _ w6 => itM (fun (v2_8 : Int32) (w10 : Wd) => if v2_8 < p1 then (cl (sh_228 o0 w10) (fun _ w12 => lt (v2_8 + 1 : Int32) (fun v2_14 => some (.inl v2_14, w12)))) else (gd (ib 429 10265) (some (.inr (wI w10 (o0 + 2) (ix 429)), w10)))) FU 0 w6)))) else (some ((-1), w2))))
set_option maxRecDepth 20000 in
set_option maxHeartbeats 4000000 in
theorem ev_227 {d : Nat} (hd : 3 ≤ d) {o0 : Nat} {p1 : Int32} {w : Wd} (hT : TY w) (ho0 : ist o0 10) : sp (sh_227 o0 p1 w) (fun r w' => TY w' ∧ Ev d 227 [.ref o0, .int p1] w (cvI r) w') := by
  obtain ⟨d, rfl⟩ : ∃ d', d = d' + 1 := ⟨d - 1, by omega⟩
  refine ev_of (M := M227) zin_227 rfl (by decide) rfl (Nat.le_of_ble_eq_true rfl) (Or.inr ⟨o0, _, rfl, ho0⟩) hT ?_
  show sp _ (PP (Ev d) M227 (KR cvI) (0, [(0, .ref o0), (1, .int p1)], [], w))
  unfold sh_227
  refine s_aload rfl rfl ?_
  refine s_const rfl ?_
  refine s_putI rfl hT ho0 rfl (fun w1 hT1 => ?_)
  refine s_iload rfl rfl ?_
  refine s_const rfl ?_
  refine s_const rfl ?_
  refine s_callZ [.int p1, .int 1, .int 20] [] rfl rfl (Nat.le_of_ble_eq_true rfl) (ev_199 (d := d) (by omega) hT1 ) (fun r3 w2 hT2 => ?_)
  refine sp_ite (fun h4 => ?_) (fun h4 => ?_)
  · refine s_if0 rfl (zb_eq0 h4) ?_
    refine s_aload rfl rfl ?_
    refine s_getF rfl hT2 ho0 rfl ?_
    refine s_const rfl ?_
    refine s_iald rfl hT2 (of_10_6 ho0) ?_
    refine s_iload rfl rfl ?_
    refine s_bin rfl rfl ?_
    refine s_const rfl ?_
    refine sp_ite (fun h5 => ?_) (fun h5 => ?_)
    · refine s_ic0 rfl (zc_le0 h5) ?_
      refine s_const rfl ?_
      exact s_retI rfl rfl hT2 (fun _ _ h => h)
    · refine s_ic1 rfl (zc_le1 h5) ?_
      refine s_aload rfl rfl ?_
      refine s_callV [.ref o0] [] rfl rfl (Nat.le_of_ble_eq_true rfl) (ev_224 (d := d) (by omega) hT2 ho0) (fun _ w6 hT6 => ?_)
      refine s_const rfl ?_
      refine s_istoreF [(0, .ref o0), (1, .int p1), (2, .int 0)] rfl (subl_c rfl (subl_c rfl (subl_c rfl (subl_n)))) ?_
      let lvL9 : Int32 → List (Nat × Value) := fun s15 => [(0, .ref o0), (1, .int p1), (2, .int s15)]
      refine s_loop lvL9 (subl_c rfl (subl_c rfl (subl_c rfl (subl_n)))) hT6 (fun v2_8 w10 hT10 => ?_)
      show sp _ (PP _ _ _ (39, [(0, .ref o0), (1, .int p1), (2, .int v2_8)], [], w10))
      refine s_iload rfl rfl ?_
      refine s_iload rfl rfl ?_
      refine sp_ite (fun h11 => ?_) (fun h11 => ?_)
      · refine s_ic0 rfl (zc_ge0 h11) ?_
        refine s_aload rfl rfl ?_
        refine s_callV [.ref o0] [] rfl rfl (Nat.le_of_ble_eq_true rfl) (ev_228 (d := d) (by omega) hT10 ho0) (fun _ w12 hT12 => ?_)
        refine s_iincF (fun v2_14 => [(0, .ref o0), (1, .int p1), (2, .int v2_14)]) rfl rfl (fun _ => subl_c rfl (subl_c rfl (subl_c rfl (subl_n)))) (fun v2_14 => ?_)
        refine s_goto rfl ?_
        exact s_back (lvL := lvL9) (s' := v2_14) (subl_c rfl (subl_c rfl (subl_c rfl (subl_n)))) hT12 (fun _ _ h => h)
      · refine s_ic1 rfl (zc_ge1 h11) ?_
        refine s_aload rfl rfl ?_
        refine s_getF rfl hT10 ho0 rfl ?_
        refine s_const rfl ?_
        refine s_iald rfl hT10 (of_10_6 ho0) ?_
        exact s_retI rfl rfl hT10 (fun _ _ h => h)
  · refine s_if1 rfl (zb_eq1 h4) ?_
    refine s_const rfl ?_
    exact s_retI rfl rfl hT2 (fun _ _ h => h)
/-- RugReaderModel.beats(I)I -/
def sh_232 (o0 : Nat) (p1 : Int32) (w : Wd) : Option (Int32 × Wd) := gd (ib (436 + (4 * p1)) 10265) (lt (if 0 < wI w (o0 + 2) (ix (436 + (4 * p1))) then true else false : Bool) (fun z1 => cl (sh_230 o0 (436 + (4 * p1)) 4 w) (fun _ w2 => cl (sh_230 o0 (2308 + (54 * p1)) 54 w2) (fun _ w4 => some (bi z1, w4)))))
set_option maxRecDepth 20000 in
set_option maxHeartbeats 4000000 in
theorem ev_232 {d : Nat} (hd : 2 ≤ d) {o0 : Nat} {p1 : Int32} {w : Wd} (hT : TY w) (ho0 : ist o0 10) : sp (sh_232 o0 p1 w) (fun r w' => TY w' ∧ Ev d 232 [.ref o0, .int p1] w (cvI r) w') := by
  obtain ⟨d, rfl⟩ : ∃ d', d = d' + 1 := ⟨d - 1, by omega⟩
  refine ev_of (M := M232) zin_232 rfl (by decide) rfl (Nat.le_of_ble_eq_true rfl) (Or.inr ⟨o0, _, rfl, ho0⟩) hT ?_
  show sp _ (PP (Ev d) M232 (KR cvI) (0, [(0, .ref o0), (1, .int p1)], [], w))
  unfold sh_232
  refine s_aload rfl rfl ?_
  refine s_getF rfl hT ho0 rfl ?_
  refine s_const rfl ?_
  refine s_const rfl ?_
  refine s_iload rfl rfl ?_
  refine s_bin rfl rfl ?_
  refine s_bin rfl rfl ?_
  refine s_iald rfl hT (of_10_6 ho0) ?_
  refine sp_lt (fun z1 hz1 => ?_)
  refine s_dia (20, [(0, .ref o0), (1, .int p1)], [.int (bi z1)], w) ?_ (fun hk6 => ?_)
  · refine s_istoreF [(0, .ref o0), (1, .int p1), (2, .int (bi z1))] rfl (subl_c rfl (subl_c rfl (subl_c rfl (subl_n)))) ?_
    refine s_aload rfl rfl ?_
    refine s_const rfl ?_
    refine s_const rfl ?_
    refine s_iload rfl rfl ?_
    refine s_bin rfl rfl ?_
    refine s_bin rfl rfl ?_
    refine s_const rfl ?_
    refine s_callV [.ref o0, .int (436 + (4 * p1)), .int 4] [] rfl rfl (Nat.le_of_ble_eq_true rfl) (ev_230 (d := d) (by omega) hT ho0) (fun _ w2 hT2 => ?_)
    refine s_aload rfl rfl ?_
    refine s_const rfl ?_
    refine s_const rfl ?_
    refine s_iload rfl rfl ?_
    refine s_bin rfl rfl ?_
    refine s_bin rfl rfl ?_
    refine s_const rfl ?_
    refine s_callV [.ref o0, .int (2308 + (54 * p1)), .int 54] [] rfl rfl (Nat.le_of_ble_eq_true rfl) (ev_230 (d := d) (by omega) hT2 ho0) (fun _ w4 hT4 => ?_)
    refine s_iload rfl rfl ?_
    exact s_retI rfl rfl hT4 (fun _ _ h => h)
  · by_cases h7 : 0 < wI w (o0 + 2) (ix (436 + (4 * p1)))
    · refine s_if0 rfl (zc_le0 h7) ?_
      refine s_const rfl ?_
      refine s_goto rfl ?_
      refine s_cong ?_ hk6
      (rw [hz1, if_pos h7]; rfl)
    · refine s_if1 rfl (zc_le1 h7) ?_
      refine s_const rfl ?_
      refine s_cong ?_ hk6
      (rw [hz1, if_neg h7]; rfl)
/-- RugReaderModel.beat(II)I -/
def sh_231 (o0 : Nat) (p1 : Int32) (p2 : Int32) (w : Wd) : Option (Int32 × Wd) := stI w o0 0 0 (fun w1 => cl (sh_216 o0 p1 w1) (fun r3 w2 => if r3 = true then (cl (sh_216 o0 p2 w2) (fun r6 w5 => if r6 = true then (cl (sh_224 o0 w5) (fun _ w8 => jn (fun (t11 : Int32) (w12 : Wd) => lt (((zrem p1 12) + (zrem p2 12)) - t11 : Int32) (fun v4_13 => jn (fun (t15 : Int32) (w16 : Wd) => lt (((p1 / 12) + (p2 / 12)) - t15 : Int32) (fun v6_17 => itM (fun (s34 : Int32 × Int32) (w21 : Wd) => match s34 with | (v7_18, v8_19) => if v8_19 ≤ v6_17 then (itM (fun (s33 : Int32 × Int32) (w26 : Wd) => match s33 with | (v7_23, v9_24) => if v9_24 ≤ v4_13 then (cl (sh_232 o0 ((12 * v8_19) + v9_24) w26) (fun r29 w28 => lt (v7_23 + r29 : Int32) (fun v7_30 => lt (v9_24 + 1 : Int32) (fun v9_31 => some (.inl (v7_30, v9_31), w28))))) else (lt (v8_19 + 1 : Int32) (fun v8_32 => some (.inr (.inl (v7_23, v8_32)), w26)))) FU (v7_18, t11) w21) else (some (.inr (v7_18), w21))) FU (0, t15) w16)) (fun j14 => if p1 / 12 < p2 / 12 then (j14 (p1 / 12) w12) else (j14 (p2 / 12) w12)))) (fun j10 => if zrem p1 12 < zrem p2 12 then (j10 (zrem p1 12) w8) else (j10 (zrem p2 12) w8)))) else (some ((-1), w5)))) else (some ((-1), w2))))
set_option maxRecDepth 20000 in
set_option maxHeartbeats 4000000 in
theorem ev_231 {d : Nat} (hd : 3 ≤ d) {o0 : Nat} {p1 : Int32} {p2 : Int32} {w : Wd} (hT : TY w) (ho0 : ist o0 10) : sp (sh_231 o0 p1 p2 w) (fun r w' => TY w' ∧ Ev d 231 [.ref o0, .int p1, .int p2] w (cvI r) w') := by
  obtain ⟨d, rfl⟩ : ∃ d', d = d' + 1 := ⟨d - 1, by omega⟩
  refine ev_of (M := M231) zin_231 rfl (by decide) rfl (Nat.le_of_ble_eq_true rfl) (Or.inr ⟨o0, _, rfl, ho0⟩) hT ?_
  show sp _ (PP (Ev d) M231 (KR cvI) (0, [(0, .ref o0), (1, .int p1), (2, .int p2)], [], w))
  unfold sh_231
  refine s_aload rfl rfl ?_
  refine s_const rfl ?_
  refine s_putI rfl hT ho0 rfl (fun w1 hT1 => ?_)
  refine s_aload rfl rfl ?_
  refine s_iload rfl rfl ?_
  refine s_callZ [.ref o0, .int p1] [] rfl rfl (Nat.le_of_ble_eq_true rfl) (ev_216 (d := d) (by omega) hT1 ho0) (fun r3 w2 hT2 => ?_)
  refine sp_ite (fun h4 => ?_) (fun h4 => ?_)
  · refine s_if0 rfl (zb_eq0 h4) ?_
    refine s_aload rfl rfl ?_
    refine s_iload rfl rfl ?_
    refine s_callZ [.ref o0, .int p2] [] rfl rfl (Nat.le_of_ble_eq_true rfl) (ev_216 (d := d) (by omega) hT2 ho0) (fun r6 w5 hT5 => ?_)
    refine sp_ite (fun h7 => ?_) (fun h7 => ?_)
    · refine s_if1 rfl (zb_ne1 h7) ?_
      refine s_aload rfl rfl ?_
      refine s_callV [.ref o0] [] rfl rfl (Nat.le_of_ble_eq_true rfl) (ev_224 (d := d) (by omega) hT5 ho0) (fun _ w8 hT8 => ?_)
      refine s_iload rfl rfl ?_
      refine s_const rfl ?_
      refine s_rem rfl (by decide) ?_
      refine s_iload rfl rfl ?_
      refine s_const rfl ?_
      refine s_rem rfl (by decide) ?_
      refine s_jnP (fun (s38 : Int32) w => (49, [(0, .ref o0), (1, .int p1), (2, .int p2)], [.int s38], w)) (fun t11 w12 hT12 => ?_) (fun j10 hj10 => ?_)
      · show sp _ (PP _ _ _ (49, [(0, .ref o0), (1, .int p1), (2, .int p2)], [.int t11], w12))
        refine s_istoreF [(0, .ref o0), (1, .int p1), (2, .int p2), (3, .int t11)] rfl (subl_c rfl (subl_c rfl (subl_c rfl (subl_c rfl (subl_n))))) ?_
        refine s_iload rfl rfl ?_
        refine s_const rfl ?_
        refine s_rem rfl (by decide) ?_
        refine s_iload rfl rfl ?_
        refine s_const rfl ?_
        refine s_rem rfl (by decide) ?_
        refine s_bin rfl rfl ?_
        refine s_iload rfl rfl ?_
        refine s_bin rfl rfl ?_
        refine s_nmI (fun v4_13 => ?_)
        refine s_istoreF [(0, .ref o0), (1, .int p1), (2, .int p2), (3, .int t11), (4, .int v4_13)] rfl (subl_c rfl (subl_c rfl (subl_c rfl (subl_c rfl (subl_c rfl (subl_n)))))) ?_
        refine s_iload rfl rfl ?_
        refine s_const rfl ?_
        refine s_div rfl (by decide) ?_
        refine s_iload rfl rfl ?_
        refine s_const rfl ?_
        refine s_div rfl (by decide) ?_
        refine s_jnP (fun (s36 : Int32) w => (85, [(0, .ref o0), (1, .int p1), (2, .int p2), (3, .int t11), (4, .int v4_13)], [.int s36], w)) (fun t15 w16 hT16 => ?_) (fun j14 hj14 => ?_)
        · show sp _ (PP _ _ _ (85, [(0, .ref o0), (1, .int p1), (2, .int p2), (3, .int t11), (4, .int v4_13)], [.int t15], w16))
          refine s_istoreF [(0, .ref o0), (1, .int p1), (2, .int p2), (3, .int t11), (4, .int v4_13), (5, .int t15)] rfl (subl_c rfl (subl_c rfl (subl_c rfl (subl_c rfl (subl_c rfl (subl_c rfl (subl_n))))))) ?_
          refine s_iload rfl rfl ?_
          refine s_const rfl ?_
          refine s_div rfl (by decide) ?_
          refine s_iload rfl rfl ?_
          refine s_const rfl ?_
          refine s_div rfl (by decide) ?_
          refine s_bin rfl rfl ?_
          refine s_iload rfl rfl ?_
          refine s_bin rfl rfl ?_
          refine s_nmI (fun v6_17 => ?_)
          refine s_istoreF [(0, .ref o0), (3, .int t11), (4, .int v4_13), (5, .int t15), (6, .int v6_17)] rfl (subl_c rfl (subl_c rfl (subl_c rfl (subl_c rfl (subl_c rfl (subl_n)))))) ?_
          refine s_const rfl ?_
          refine s_istoreF [(0, .ref o0), (3, .int t11), (4, .int v4_13), (5, .int t15), (6, .int v6_17), (7, .int 0)] rfl (subl_c rfl (subl_c rfl (subl_c rfl (subl_c rfl (subl_c rfl (subl_c rfl (subl_n))))))) ?_
          refine s_iload rfl rfl ?_
          refine s_istoreF [(0, .ref o0), (3, .int t11), (4, .int v4_13), (6, .int v6_17), (7, .int 0), (8, .int t15)] rfl (subl_c rfl (subl_c rfl (subl_c rfl (subl_c rfl (subl_c rfl (subl_c rfl (subl_n))))))) ?_
          let lvL20 : Int32 × Int32 → List (Nat × Value) := fun s34 => [(0, .ref o0), (3, .int t11), (4, .int v4_13), (6, .int v6_17), (7, .int (s34.1)), (8, .int (s34.2))]
          refine s_loop lvL20 (subl_c rfl (subl_c rfl (subl_c rfl (subl_c rfl (subl_c rfl (subl_c rfl (subl_n))))))) hT16 (fun s34 w21 hT21 => ?_)
          obtain ⟨v7_18, v8_19⟩ := s34
          show sp _ (PP _ _ _ (108, [(0, .ref o0), (3, .int t11), (4, .int v4_13), (6, .int v6_17), (7, .int v7_18), (8, .int v8_19)], [], w21))
          refine s_iload rfl rfl ?_
          refine s_iload rfl rfl ?_
          refine sp_ite (fun h22 => ?_) (fun h22 => ?_)
          · refine s_ic0 rfl (zc_gt0 h22) ?_
            refine s_iload rfl rfl ?_
            refine s_istoreF [(0, .ref o0), (3, .int t11), (4, .int v4_13), (6, .int v6_17), (7, .int v7_18), (8, .int v8_19), (9, .int t11)] rfl (subl_c rfl (subl_c rfl (subl_c rfl (subl_c rfl (subl_c rfl (subl_c rfl (subl_c rfl (subl_n)))))))) ?_
            let lvL25 : Int32 × Int32 → List (Nat × Value) := fun s33 => [(0, .ref o0), (3, .int t11), (4, .int v4_13), (6, .int v6_17), (7, .int (s33.1)), (8, .int v8_19), (9, .int (s33.2))]
            refine s_loop lvL25 (subl_c rfl (subl_c rfl (subl_c rfl (subl_c rfl (subl_c rfl (subl_c rfl (subl_c rfl (subl_n)))))))) hT21 (fun s33 w26 hT26 => ?_)
            obtain ⟨v7_23, v9_24⟩ := s33
            show sp _ (PP _ _ _ (118, [(0, .ref o0), (3, .int t11), (4, .int v4_13), (6, .int v6_17), (7, .int v7_23), (8, .int v8_19), (9, .int v9_24)], [], w26))
            refine s_iload rfl rfl ?_
            refine s_iload rfl rfl ?_
            refine sp_ite (fun h27 => ?_) (fun h27 => ?_)
            · refine s_ic0 rfl (zc_gt0 h27) ?_
              refine s_iload rfl rfl ?_
              refine s_aload rfl rfl ?_
              refine s_const rfl ?_
              refine s_iload rfl rfl ?_
              refine s_bin rfl rfl ?_
              refine s_iload rfl rfl ?_
              refine s_bin rfl rfl ?_
              refine s_callI [.ref o0, .int ((12 * v8_19) + v9_24)] [.int v7_23] rfl rfl (Nat.le_of_ble_eq_true rfl) (ev_232 (d := d) (by omega) hT26 ho0) (fun r29 w28 hT28 => ?_)
              refine s_bin rfl rfl ?_
              refine s_nmI (fun v7_30 => ?_)
              refine s_istoreF [(0, .ref o0), (3, .int t11), (4, .int v4_13), (6, .int v6_17), (7, .int v7_30), (8, .int v8_19), (9, .int v9_24)] rfl (subl_c rfl (subl_c rfl (subl_c rfl (subl_c rfl (subl_c rfl (subl_c rfl (subl_c rfl (subl_n)))))))) ?_
              refine s_iincF (fun v9_31 => [(0, .ref o0), (3, .int t11), (4, .int v4_13), (6, .int v6_17), (7, .int v7_30), (8, .int v8_19), (9, .int v9_31)]) rfl rfl (fun _ => subl_c rfl (subl_c rfl (subl_c rfl (subl_c rfl (subl_c rfl (subl_c rfl (subl_c rfl (subl_n)))))))) (fun v9_31 => ?_)
              refine s_goto rfl ?_
              exact s_back (lvL := lvL25) (s' := (v7_30, v9_31)) (subl_c rfl (subl_c rfl (subl_c rfl (subl_c rfl (subl_c rfl (subl_c rfl (subl_c rfl (subl_n)))))))) hT28 (fun _ _ h => h)
            · refine s_ic1 rfl (zc_gt1 h27) ?_
              refine s_iincF (fun v8_32 => [(0, .ref o0), (3, .int t11), (4, .int v4_13), (6, .int v6_17), (7, .int v7_23), (8, .int v8_32)]) rfl rfl (fun _ => subl_c rfl (subl_c rfl (subl_c rfl (subl_c rfl (subl_c rfl (subl_c rfl (subl_n))))))) (fun v8_32 => ?_)
              refine s_goto rfl ?_
              exact s_back (lvL := lvL20) (s' := (v7_23, v8_32)) (subl_c rfl (subl_c rfl (subl_c rfl (subl_c rfl (subl_c rfl (subl_c rfl (subl_n))))))) hT26 (fun _ _ h => h)
          · refine s_ic1 rfl (zc_gt1 h22) ?_
            refine s_iload rfl rfl ?_
            exact s_retI rfl rfl hT21 (fun _ _ h => h)
        · refine sp_ite (fun h35 => ?_) (fun h35 => ?_)
          · refine s_ic0 rfl (zc_ge0 h35) ?_
            refine s_iload rfl rfl ?_
            refine s_const rfl ?_
            refine s_div rfl (by decide) ?_
            refine s_goto rfl ?_
            exact s_fgt _ (subl_c rfl (subl_c rfl (subl_c rfl (subl_c rfl (subl_c rfl (subl_n)))))) (hj14 (p1 / 12) w12 hT12)
          · refine s_ic1 rfl (zc_ge1 h35) ?_
            refine s_iload rfl rfl ?_
            refine s_const rfl ?_
            refine s_div rfl (by decide) ?_
            exact s_fgt _ (subl_c rfl (subl_c rfl (subl_c rfl (subl_c rfl (subl_c rfl (subl_n)))))) (hj14 (p2 / 12) w12 hT12)
      · refine sp_ite (fun h37 => ?_) (fun h37 => ?_)
        · refine s_ic0 rfl (zc_ge0 h37) ?_
          refine s_iload rfl rfl ?_
          refine s_const rfl ?_
          refine s_rem rfl (by decide) ?_
          refine s_goto rfl ?_
          exact s_fgt _ (subl_c rfl (subl_c rfl (subl_c rfl (subl_n)))) (hj10 (zrem p1 12) w8 hT8)
        · refine s_ic1 rfl (zc_ge1 h37) ?_
          refine s_iload rfl rfl ?_
          refine s_const rfl ?_
          refine s_rem rfl (by decide) ?_
          exact s_fgt _ (subl_c rfl (subl_c rfl (subl_c rfl (subl_n)))) (hj10 (zrem p2 12) w8 hT8)
    · refine s_if0 rfl (zb_ne0 h7) ?_
      refine s_const rfl ?_
      exact s_retI rfl rfl hT5 (fun _ _ h => h)
  · refine s_if1 rfl (zb_eq1 h4) ?_
    refine s_const rfl ?_
    exact s_retI rfl rfl hT2 (fun _ _ h => h)
/-- RugReaderModel.fullDepth(I)I -/
def sh_234 (o0 : Nat) (p1 : Int32) (w : Wd) : Option (Int32 × Wd) := itM (fun (s8 : Int32 × Int32) (w4 : Wd) => match s8 with | (v2_1, v3_2) => gd (ib 6 10265) (if v3_2 < wI w4 (o0 + 2) (ix 6) then (gd (ib ((1012 + (9 * p1)) + v3_2) 10265) (gd (ib 6 10265) (lt (v2_1 + ((wI w4 (o0 + 2) (ix ((1012 + (9 * p1)) + v3_2))) * ((wI w4 (o0 + 2) (ix 6)) - v3_2)) : Int32) (fun v2_6 => lt (v3_2 + 1 : Int32) (fun v3_7 => some (.inl (v2_6, v3_7), w4)))))) else (some (.inr (v2_1), w4)))) FU (0, 0) w
set_option maxRecDepth 20000 in
set_option maxHeartbeats 4000000 in
theorem ev_234 {d : Nat} (hd : 1 ≤ d) {o0 : Nat} {p1 : Int32} {w : Wd} (hT : TY w) (ho0 : ist o0 10) : sp (sh_234 o0 p1 w) (fun r w' => TY w' ∧ Ev d 234 [.ref o0, .int p1] w (cvI r) w') := by
  obtain ⟨d, rfl⟩ : ∃ d', d = d' + 1 := ⟨d - 1, by omega⟩
  refine ev_of (M := M234) zin_234 rfl (by decide) rfl (Nat.le_of_ble_eq_true rfl) (Or.inr ⟨o0, _, rfl, ho0⟩) hT ?_
  show sp _ (PP (Ev d) M234 (KR cvI) (0, [(0, .ref o0), (1, .int p1)], [], w))
  unfold sh_234
  refine s_const rfl ?_
  refine s_istoreF [(0, .ref o0), (1, .int p1), (2, .int 0)] rfl (subl_c rfl (subl_c rfl (subl_c rfl (subl_n)))) ?_
  refine s_const rfl ?_
  refine s_istoreF [(0, .ref o0), (1, .int p1), (2, .int 0), (3, .int 0)] rfl (subl_c rfl (subl_c rfl (subl_c rfl (subl_c rfl (subl_n))))) ?_
  let lvL3 : Int32 × Int32 → List (Nat × Value) := fun s8 => [(0, .ref o0), (1, .int p1), (2, .int (s8.1)), (3, .int (s8.2))]
  refine s_loop lvL3 (subl_c rfl (subl_c rfl (subl_c rfl (subl_c rfl (subl_n))))) hT (fun s8 w4 hT4 => ?_)
  obtain ⟨v2_1, v3_2⟩ := s8
  show sp _ (PP _ _ _ (4, [(0, .ref o0), (1, .int p1), (2, .int v2_1), (3, .int v3_2)], [], w4))
  refine s_iload rfl rfl ?_
  refine s_aload rfl rfl ?_
  refine s_getF rfl hT4 ho0 rfl ?_
  refine s_const rfl ?_
  refine s_iald rfl hT4 (of_10_6 ho0) ?_
  refine sp_ite (fun h5 => ?_) (fun h5 => ?_)
  · refine s_ic0 rfl (zc_ge0 h5) ?_
    refine s_iload rfl rfl ?_
    refine s_aload rfl rfl ?_
    refine s_getF rfl hT4 ho0 rfl ?_
    refine s_const rfl ?_
    refine s_const rfl ?_
    refine s_iload rfl rfl ?_
    refine s_bin rfl rfl ?_
    refine s_bin rfl rfl ?_
    refine s_iload rfl rfl ?_
    refine s_bin rfl rfl ?_
    refine s_iald rfl hT4 (of_10_6 ho0) ?_
    refine s_aload rfl rfl ?_
    refine s_getF rfl hT4 ho0 rfl ?_
    refine s_const rfl ?_
    refine s_iald rfl hT4 (of_10_6 ho0) ?_
    refine s_iload rfl rfl ?_
    refine s_bin rfl rfl ?_
    refine s_bin rfl rfl ?_
    refine s_bin rfl rfl ?_
    refine s_nmI (fun v2_6 => ?_)
    refine s_istoreF [(0, .ref o0), (1, .int p1), (2, .int v2_6), (3, .int v3_2)] rfl (subl_c rfl (subl_c rfl (subl_c rfl (subl_c rfl (subl_n))))) ?_
    refine s_iincF (fun v3_7 => [(0, .ref o0), (1, .int p1), (2, .int v2_6), (3, .int v3_7)]) rfl rfl (fun _ => subl_c rfl (subl_c rfl (subl_c rfl (subl_c rfl (subl_n))))) (fun v3_7 => ?_)
    refine s_goto rfl ?_
    exact s_back (lvL := lvL3) (s' := (v2_6, v3_7)) (subl_c rfl (subl_c rfl (subl_c rfl (subl_c rfl (subl_n))))) hT4 (fun _ _ h => h)
  · refine s_ic1 rfl (zc_ge1 h5) ?_
    refine s_iload rfl rfl ?_
    exact s_retI rfl rfl hT4 (fun _ _ h => h)
/-- RugReaderModel.hidden(I)I -/
def sh_233 (o0 : Nat) (p1 : Int32) (w : Wd) : Option (Int32 × Wd) := stI w o0 0 0 (fun w1 => if p1 < (-1) then (some ((-1), w1)) else (itM (fun (s20 : Int32 × Int32) (w6 : Wd) => match s20 with | (v2_3, v3_4) => if v3_4 < 144 then (cl (sh_234 o0 v3_4 w6) (fun r9 w8 => cl (sh_217 o0 v3_4 w8) (fun r11 w10 => if r9 = r11 then (lt (v3_4 + 1 : Int32) (fun v3_13 => some (.inl (v2_3, v3_13), w10))) else (if v2_3 = p1 then (some (.inr (v3_4), w10)) else (lt (v2_3 + 1 : Int32) (fun v2_15 => lt (v3_4 + 1 : Int32) (fun v3_16 => some (.inl (v2_15, v3_16), w10)))))))) else (lt (if p1 = (-1) then v2_3 else (-1) : Int32) (fun z17 => some (.inr (z17), w6)))) FU (0, 0) w1))
set_option maxRecDepth 20000 in
set_option maxHeartbeats 4000000 in
theorem ev_233 {d : Nat} (hd : 3 ≤ d) {o0 : Nat} {p1 : Int32} {w : Wd} (hT : TY w) (ho0 : ist o0 10) : sp (sh_233 o0 p1 w) (fun r w' => TY w' ∧ Ev d 233 [.ref o0, .int p1] w (cvI r) w') := by
  obtain ⟨d, rfl⟩ : ∃ d', d = d' + 1 := ⟨d - 1, by omega⟩
  refine ev_of (M := M233) zin_233 rfl (by decide) rfl (Nat.le_of_ble_eq_true rfl) (Or.inr ⟨o0, _, rfl, ho0⟩) hT ?_
  show sp _ (PP (Ev d) M233 (KR cvI) (0, [(0, .ref o0), (1, .int p1)], [], w))
  unfold sh_233
  refine s_aload rfl rfl ?_
  refine s_const rfl ?_
  refine s_putI rfl hT ho0 rfl (fun w1 hT1 => ?_)
  refine s_iload rfl rfl ?_
  refine s_const rfl ?_
  refine sp_ite (fun h2 => ?_) (fun h2 => ?_)
  · refine s_ic0 rfl (zc_ge0 h2) ?_
    refine s_const rfl ?_
    exact s_retI rfl rfl hT1 (fun _ _ h => h)
  · refine s_ic1 rfl (zc_ge1 h2) ?_
    refine s_const rfl ?_
    refine s_istoreF [(0, .ref o0), (1, .int p1), (2, .int 0)] rfl (subl_c rfl (subl_c rfl (subl_c rfl (subl_n)))) ?_
    refine s_const rfl ?_
    refine s_istoreF [(0, .ref o0), (1, .int p1), (2, .int 0), (3, .int 0)] rfl (subl_c rfl (subl_c rfl (subl_c rfl (subl_c rfl (subl_n))))) ?_
    let lvL5 : Int32 × Int32 → List (Nat × Value) := fun s20 => [(0, .ref o0), (1, .int p1), (2, .int (s20.1)), (3, .int (s20.2))]
    refine s_loop lvL5 (subl_c rfl (subl_c rfl (subl_c rfl (subl_c rfl (subl_n))))) hT1 (fun s20 w6 hT6 => ?_)
    obtain ⟨v2_3, v3_4⟩ := s20
    show sp _ (PP _ _ _ (16, [(0, .ref o0), (1, .int p1), (2, .int v2_3), (3, .int v3_4)], [], w6))
    refine s_iload rfl rfl ?_
    refine s_const rfl ?_
    refine sp_ite (fun h7 => ?_) (fun h7 => ?_)
    · refine s_ic0 rfl (zc_ge0 h7) ?_
      refine s_aload rfl rfl ?_
      refine s_iload rfl rfl ?_
      refine s_callI [.ref o0, .int v3_4] [] rfl rfl (Nat.le_of_ble_eq_true rfl) (ev_234 (d := d) (by omega) hT6 ho0) (fun r9 w8 hT8 => ?_)
      refine s_aload rfl rfl ?_
      refine s_iload rfl rfl ?_
      refine s_callI [.ref o0, .int v3_4] [.int r9] rfl rfl (Nat.le_of_ble_eq_true rfl) (ev_217 (d := d) (by omega) hT8 ho0) (fun r11 w10 hT10 => ?_)
      refine sp_ite (fun h12 => ?_) (fun h12 => ?_)
      · refine s_ic0 rfl (zc_ne0 h12) ?_
        refine s_goto rfl ?_
        refine s_iincF (fun v3_13 => [(0, .ref o0), (1, .int p1), (2, .int v2_3), (3, .int v3_13)]) rfl rfl (fun _ => subl_c rfl (subl_c rfl (subl_c rfl (subl_c rfl (subl_n))))) (fun v3_13 => ?_)
        refine s_goto rfl ?_
        exact s_back (lvL := lvL5) (s' := (v2_3, v3_13)) (subl_c rfl (subl_c rfl (subl_c rfl (subl_c rfl (subl_n))))) hT10 (fun _ _ h => h)
      · refine s_ic1 rfl (zc_ne1 h12) ?_
        refine s_iload rfl rfl ?_
        refine s_iload rfl rfl ?_
        refine sp_ite (fun h14 => ?_) (fun h14 => ?_)
        · refine s_ic0 rfl (zc_ne0 h14) ?_
          refine s_iload rfl rfl ?_
          exact s_retI rfl rfl hT10 (fun _ _ h => h)
        · refine s_ic1 rfl (zc_ne1 h14) ?_
          refine s_iincF (fun v2_15 => [(0, .ref o0), (1, .int p1), (2, .int v2_15), (3, .int v3_4)]) rfl rfl (fun _ => subl_c rfl (subl_c rfl (subl_c rfl (subl_c rfl (subl_n))))) (fun v2_15 => ?_)
          refine s_iincF (fun v3_16 => [(0, .ref o0), (1, .int p1), (2, .int v2_15), (3, .int v3_16)]) rfl rfl (fun _ => subl_c rfl (subl_c rfl (subl_c rfl (subl_c rfl (subl_n))))) (fun v3_16 => ?_)
          refine s_goto rfl ?_
          exact s_back (lvL := lvL5) (s' := (v2_15, v3_16)) (subl_c rfl (subl_c rfl (subl_c rfl (subl_c rfl (subl_n))))) hT10 (fun _ _ h => h)
    · refine s_ic1 rfl (zc_ge1 h7) ?_
      refine s_iload rfl rfl ?_
      refine s_const rfl ?_
      refine sp_lt (fun z17 hz17 => ?_)
      refine s_dia (65, [(0, .ref o0), (1, .int p1), (2, .int v2_3), (3, .int v3_4)], [.int z17], w6) ?_ (fun hk18 => ?_)
      · exact s_retI rfl rfl hT6 (fun _ _ h => h)
      · by_cases h19 : p1 = (-1)
        · refine s_ic0 rfl (zc_ne0 h19) ?_
          refine s_iload rfl rfl ?_
          refine s_goto rfl ?_
          refine s_cong ?_ hk18
          (rw [hz17, if_pos h19])
        · refine s_ic1 rfl (zc_ne1 h19) ?_
          refine s_const rfl ?_
          refine s_cong ?_ hk18
          (rw [hz17, if_neg h19])
/-- RugReaderModel.missing(I)I -/
def sh_235 (o0 : Nat) (p1 : Int32) (w : Wd) : Option (Int32 × Wd) := stI w o0 0 0 (fun w1 => cl (sh_216 o0 p1 w1) (fun r3 w2 => if r3 = true then (cl (sh_234 o0 p1 w2) (fun r6 w5 => cl (sh_217 o0 p1 w5) (fun r8 w7 => some (r6 - r8, w7)))) else (some ((-1), w2))))
set_option maxRecDepth 20000 in
set_option maxHeartbeats 4000000 in
theorem ev_235 {d : Nat} (hd : 3 ≤ d) {o0 : Nat} {p1 : Int32} {w : Wd} (hT : TY w) (ho0 : ist o0 10) : sp (sh_235 o0 p1 w) (fun r w' => TY w' ∧ Ev d 235 [.ref o0, .int p1] w (cvI r) w') := by
  obtain ⟨d, rfl⟩ : ∃ d', d = d' + 1 := ⟨d - 1, by omega⟩
  refine ev_of (M := M235) zin_235 rfl (by decide) rfl (Nat.le_of_ble_eq_true rfl) (Or.inr ⟨o0, _, rfl, ho0⟩) hT ?_
  show sp _ (PP (Ev d) M235 (KR cvI) (0, [(0, .ref o0), (1, .int p1)], [], w))
  unfold sh_235
  refine s_aload rfl rfl ?_
  refine s_const rfl ?_
  refine s_putI rfl hT ho0 rfl (fun w1 hT1 => ?_)
  refine s_aload rfl rfl ?_
  refine s_iload rfl rfl ?_
  refine s_callZ [.ref o0, .int p1] [] rfl rfl (Nat.le_of_ble_eq_true rfl) (ev_216 (d := d) (by omega) hT1 ho0) (fun r3 w2 hT2 => ?_)
  refine sp_ite (fun h4 => ?_) (fun h4 => ?_)
  · refine s_if0 rfl (zb_eq0 h4) ?_
    refine s_aload rfl rfl ?_
    refine s_iload rfl rfl ?_
    refine s_callI [.ref o0, .int p1] [] rfl rfl (Nat.le_of_ble_eq_true rfl) (ev_234 (d := d) (by omega) hT2 ho0) (fun r6 w5 hT5 => ?_)
    refine s_aload rfl rfl ?_
    refine s_iload rfl rfl ?_
    refine s_callI [.ref o0, .int p1] [.int r6] rfl rfl (Nat.le_of_ble_eq_true rfl) (ev_217 (d := d) (by omega) hT5 ho0) (fun r8 w7 hT7 => ?_)
    refine s_bin rfl rfl ?_
    refine s_goto rfl ?_
    exact s_retI rfl rfl hT7 (fun _ _ h => h)
  · refine s_if1 rfl (zb_eq1 h4) ?_
    refine s_const rfl ?_
    exact s_retI rfl rfl hT2 (fun _ _ h => h)
/-- RugReaderModel.soles(I)I -/
def sh_236 (o0 : Nat) (p1 : Int32) (w : Wd) : Option (Int32 × Wd) := stI w o0 0 0 (fun w1 => itM (fun (s15 : Int32 × Int32) (w5 : Wd) => match s15 with | (v2_2, v3_3) => if v3_3 < 144 then (gd (ib (436 + (4 * v3_3)) 10265) (if 0 < wI w5 (o0 + 2) (ix (436 + (4 * v3_3))) then (gd (ib ((436 + (4 * v3_3)) + 1) 10265) (if wI w5 (o0 + 2) (ix ((436 + (4 * v3_3)) + 1)) = p1 then (lt (v2_2 + 1 : Int32) (fun v2_9 => lt (v3_3 + 1 : Int32) (fun v3_10 => some (.inl (v2_9, v3_10), w5)))) else (lt (v2_2 + 0 : Int32) (fun v2_11 => lt (v3_3 + 1 : Int32) (fun v3_12 => some (.inl (v2_11, v3_12), w5)))))) else (lt (v2_2 + 0 : Int32) (fun v2_13 => lt (v3_3 + 1 : Int32) (fun v3_14 => some (.inl (v2_13, v3_14), w5)))))) else (some (.inr (v2_2), w5))) FU (0, 0) w1)
set_option maxRecDepth 20000 in
set_option maxHeartbeats 4000000 in
theorem ev_236 {d : Nat} (hd : 1 ≤ d) {o0 : Nat} {p1 : Int32} {w : Wd} (hT : TY w) (ho0 : ist o0 10) : sp (sh_236 o0 p1 w) (fun r w' => TY w' ∧ Ev d 236 [.ref o0, .int p1] w (cvI r) w') := by
  obtain ⟨d, rfl⟩ : ∃ d', d = d' + 1 := ⟨d - 1, by omega⟩
  refine ev_of (M := M236) zin_236 rfl (by decide) rfl (Nat.le_of_ble_eq_true rfl) (Or.inr ⟨o0, _, rfl, ho0⟩) hT ?_
  show sp _ (PP (Ev d) M236 (KR cvI) (0, [(0, .ref o0), (1, .int p1)], [], w))
  unfold sh_236
  refine s_aload rfl rfl ?_
  refine s_const rfl ?_
  refine s_putI rfl hT ho0 rfl (fun w1 hT1 => ?_)
  refine s_const rfl ?_
  refine s_istoreF [(0, .ref o0), (1, .int p1), (2, .int 0)] rfl (subl_c rfl (subl_c rfl (subl_c rfl (subl_n)))) ?_
  refine s_const rfl ?_
  refine s_istoreF [(0, .ref o0), (1, .int p1), (2, .int 0), (3, .int 0)] rfl (subl_c rfl (subl_c rfl (subl_c rfl (subl_c rfl (subl_n))))) ?_
  let lvL4 : Int32 × Int32 → List (Nat × Value) := fun s15 => [(0, .ref o0), (1, .int p1), (2, .int (s15.1)), (3, .int (s15.2))]
  refine s_loop lvL4 (subl_c rfl (subl_c rfl (subl_c rfl (subl_c rfl (subl_n))))) hT1 (fun s15 w5 hT5 => ?_)
  obtain ⟨v2_2, v3_3⟩ := s15
  show sp _ (PP _ _ _ (9, [(0, .ref o0), (1, .int p1), (2, .int v2_2), (3, .int v3_3)], [], w5))
  refine s_iload rfl rfl ?_
  refine s_const rfl ?_
  refine sp_ite (fun h6 => ?_) (fun h6 => ?_)
  · refine s_ic0 rfl (zc_ge0 h6) ?_
    refine s_iload rfl rfl ?_
    refine s_aload rfl rfl ?_
    refine s_getF rfl hT5 ho0 rfl ?_
    refine s_const rfl ?_
    refine s_const rfl ?_
    refine s_iload rfl rfl ?_
    refine s_bin rfl rfl ?_
    refine s_bin rfl rfl ?_
    refine s_iald rfl hT5 (of_10_6 ho0) ?_
    refine sp_ite (fun h7 => ?_) (fun h7 => ?_)
    · refine s_if0 rfl (zc_le0 h7) ?_
      refine s_aload rfl rfl ?_
      refine s_getF rfl hT5 ho0 rfl ?_
      refine s_const rfl ?_
      refine s_const rfl ?_
      refine s_iload rfl rfl ?_
      refine s_bin rfl rfl ?_
      refine s_bin rfl rfl ?_
      refine s_const rfl ?_
      refine s_bin rfl rfl ?_
      refine s_iald rfl hT5 (of_10_6 ho0) ?_
      refine s_iload rfl rfl ?_
      refine sp_ite (fun h8 => ?_) (fun h8 => ?_)
      · refine s_ic0 rfl (zc_ne0 h8) ?_
        refine s_const rfl ?_
        refine s_goto rfl ?_
        refine s_bin rfl rfl ?_
        refine s_nmI (fun v2_9 => ?_)
        refine s_istoreF [(0, .ref o0), (1, .int p1), (2, .int v2_9), (3, .int v3_3)] rfl (subl_c rfl (subl_c rfl (subl_c rfl (subl_c rfl (subl_n))))) ?_
        refine s_iincF (fun v3_10 => [(0, .ref o0), (1, .int p1), (2, .int v2_9), (3, .int v3_10)]) rfl rfl (fun _ => subl_c rfl (subl_c rfl (subl_c rfl (subl_c rfl (subl_n))))) (fun v3_10 => ?_)
        refine s_goto rfl ?_
        exact s_back (lvL := lvL4) (s' := (v2_9, v3_10)) (subl_c rfl (subl_c rfl (subl_c rfl (subl_c rfl (subl_n))))) hT5 (fun _ _ h => h)
      · refine s_ic1 rfl (zc_ne1 h8) ?_
        refine s_const rfl ?_
        refine s_bin rfl rfl ?_
        refine s_nmI (fun v2_11 => ?_)
        refine s_istoreF [(0, .ref o0), (1, .int p1), (2, .int v2_11), (3, .int v3_3)] rfl (subl_c rfl (subl_c rfl (subl_c rfl (subl_c rfl (subl_n))))) ?_
        refine s_iincF (fun v3_12 => [(0, .ref o0), (1, .int p1), (2, .int v2_11), (3, .int v3_12)]) rfl rfl (fun _ => subl_c rfl (subl_c rfl (subl_c rfl (subl_c rfl (subl_n))))) (fun v3_12 => ?_)
        refine s_goto rfl ?_
        exact s_back (lvL := lvL4) (s' := (v2_11, v3_12)) (subl_c rfl (subl_c rfl (subl_c rfl (subl_c rfl (subl_n))))) hT5 (fun _ _ h => h)
    · refine s_if1 rfl (zc_le1 h7) ?_
      refine s_const rfl ?_
      refine s_bin rfl rfl ?_
      refine s_nmI (fun v2_13 => ?_)
      refine s_istoreF [(0, .ref o0), (1, .int p1), (2, .int v2_13), (3, .int v3_3)] rfl (subl_c rfl (subl_c rfl (subl_c rfl (subl_c rfl (subl_n))))) ?_
      refine s_iincF (fun v3_14 => [(0, .ref o0), (1, .int p1), (2, .int v2_13), (3, .int v3_14)]) rfl rfl (fun _ => subl_c rfl (subl_c rfl (subl_c rfl (subl_c rfl (subl_n))))) (fun v3_14 => ?_)
      refine s_goto rfl ?_
      exact s_back (lvL := lvL4) (s' := (v2_13, v3_14)) (subl_c rfl (subl_c rfl (subl_c rfl (subl_c rfl (subl_n))))) hT5 (fun _ _ h => h)
  · refine s_ic1 rfl (zc_ge1 h6) ?_
    refine s_iload rfl rfl ?_
    exact s_retI rfl rfl hT5 (fun _ _ h => h)
/-- RugReaderModel.deepest()I -/
def sh_237 (o0 : Nat) (w : Wd) : Option (Int32 × Wd) := stI w o0 0 0 (fun w1 => itM (fun (s13 : Int32 × Int32 × Int32) (w6 : Wd) => match s13 with | (v1_2, v2_3, v3_4) => if v3_4 < 144 then (cl (sh_217 o0 v3_4 w6) (fun r9 w8 => if r9 ≤ v2_3 then (lt (v3_4 + 1 : Int32) (fun v3_11 => some (.inl (v1_2, v2_3, v3_11), w8))) else (lt (v3_4 + 1 : Int32) (fun v3_12 => some (.inl (v3_4, r9, v3_12), w8))))) else (some (.inr (v1_2), w6))) FU ((-1), 0, 0) w1)
set_option maxRecDepth 20000 in
set_option maxHeartbeats 4000000 in
theorem ev_237 {d : Nat} (hd : 3 ≤ d) {o0 : Nat} {w : Wd} (hT : TY w) (ho0 : ist o0 10) : sp (sh_237 o0 w) (fun r w' => TY w' ∧ Ev d 237 [.ref o0] w (cvI r) w') := by
  obtain ⟨d, rfl⟩ : ∃ d', d = d' + 1 := ⟨d - 1, by omega⟩
  refine ev_of (M := M237) zin_237 rfl (by decide) rfl (Nat.le_of_ble_eq_true rfl) (Or.inr ⟨o0, _, rfl, ho0⟩) hT ?_
  show sp _ (PP (Ev d) M237 (KR cvI) (0, [(0, .ref o0)], [], w))
  unfold sh_237
  refine s_aload rfl rfl ?_
  refine s_const rfl ?_
  refine s_putI rfl hT ho0 rfl (fun w1 hT1 => ?_)
  refine s_const rfl ?_
  refine s_istoreF [(0, .ref o0), (1, .int (-1))] rfl (subl_c rfl (subl_c rfl (subl_n))) ?_
  refine s_const rfl ?_
  refine s_istoreF [(0, .ref o0), (1, .int (-1)), (2, .int 0)] rfl (subl_c rfl (subl_c rfl (subl_c rfl (subl_n)))) ?_
  refine s_const rfl ?_
  refine s_istoreF [(0, .ref o0), (1, .int (-1)), (2, .int 0), (3, .int 0)] rfl (subl_c rfl (subl_c rfl (subl_c rfl (subl_c rfl (subl_n))))) ?_
  let lvL5 : Int32 × Int32 × Int32 → List (Nat × Value) := fun s13 => [(0, .ref o0), (1, .int (s13.1)), (2, .int (s13.2.1)), (3, .int (s13.2.2))]
  refine s_loop lvL5 (subl_c rfl (subl_c rfl (subl_c rfl (subl_c rfl (subl_n))))) hT1 (fun s13 w6 hT6 => ?_)
  obtain ⟨v1_2, v2_3, v3_4⟩ := s13
  show sp _ (PP _ _ _ (11, [(0, .ref o0), (1, .int v1_2), (2, .int v2_3), (3, .int v3_4)], [], w6))
  refine s_iload rfl rfl ?_
  refine s_const rfl ?_
  refine sp_ite (fun h7 => ?_) (fun h7 => ?_)
  · refine s_ic0 rfl (zc_ge0 h7) ?_
    refine s_aload rfl rfl ?_
    refine s_iload rfl rfl ?_
    refine s_callI [.ref o0, .int v3_4] [] rfl rfl (Nat.le_of_ble_eq_true rfl) (ev_217 (d := d) (by omega) hT6 ho0) (fun r9 w8 hT8 => ?_)
    refine s_istoreF [(0, .ref o0), (1, .int v1_2), (2, .int v2_3), (3, .int v3_4), (4, .int r9)] rfl (subl_c rfl (subl_c rfl (subl_c rfl (subl_c rfl (subl_c rfl (subl_n)))))) ?_
    refine s_iload rfl rfl ?_
    refine s_iload rfl rfl ?_
    refine sp_ite (fun h10 => ?_) (fun h10 => ?_)
    · refine s_ic0 rfl (zc_gt0 h10) ?_
      refine s_goto rfl ?_
      refine s_iincF (fun v3_11 => [(0, .ref o0), (1, .int v1_2), (2, .int v2_3), (3, .int v3_11)]) rfl rfl (fun _ => subl_c rfl (subl_c rfl (subl_c rfl (subl_c rfl (subl_n))))) (fun v3_11 => ?_)
      refine s_goto rfl ?_
      exact s_back (lvL := lvL5) (s' := (v1_2, v2_3, v3_11)) (subl_c rfl (subl_c rfl (subl_c rfl (subl_c rfl (subl_n))))) hT8 (fun _ _ h => h)
    · refine s_ic1 rfl (zc_gt1 h10) ?_
      refine s_iload rfl rfl ?_
      refine s_istoreF [(0, .ref o0), (2, .int r9), (3, .int v3_4)] rfl (subl_c rfl (subl_c rfl (subl_c rfl (subl_n)))) ?_
      refine s_iload rfl rfl ?_
      refine s_istoreF [(0, .ref o0), (1, .int v3_4), (2, .int r9), (3, .int v3_4)] rfl (subl_c rfl (subl_c rfl (subl_c rfl (subl_c rfl (subl_n))))) ?_
      refine s_iincF (fun v3_12 => [(0, .ref o0), (1, .int v3_4), (2, .int r9), (3, .int v3_12)]) rfl rfl (fun _ => subl_c rfl (subl_c rfl (subl_c rfl (subl_c rfl (subl_n))))) (fun v3_12 => ?_)
      refine s_goto rfl ?_
      exact s_back (lvL := lvL5) (s' := (v3_4, r9, v3_12)) (subl_c rfl (subl_c rfl (subl_c rfl (subl_c rfl (subl_n))))) hT8 (fun _ _ h => h)
  · refine s_ic1 rfl (zc_ge1 h7) ?_
    refine s_iload rfl rfl ?_
    exact s_retI rfl rfl hT6 (fun _ _ h => h)
/-- RugReaderModel.ageBy(II)I -/
def sh_239 (o0 : Nat) (p1 : Int32) (p2 : Int32) (w : Wd) : Option (Int32 × Wd) := itM (fun (v3_1 : Int32) (w3 : Wd) => gd (ib 6 10265) (if v3_1 < wI w3 (o0 + 2) (ix 6) then (gd (ib (7 + p1) 10265) (gd (ib 6 10265) (if (wI w3 (o0 + 2) (ix (7 + p1))) * ((wI w3 (o0 + 2) (ix 6)) - v3_1) = p2 then (some (.inr (v3_1), w3)) else (lt (v3_1 + 1 : Int32) (fun v3_6 => some (.inl v3_6, w3)))))) else (some (.inr ((-1)), w3)))) FU 0 w
set_option maxRecDepth 20000 in
set_option maxHeartbeats 4000000 in
theorem ev_239 {d : Nat} (hd : 1 ≤ d) {o0 : Nat} {p1 : Int32} {p2 : Int32} {w : Wd} (hT : TY w) (ho0 : ist o0 10) : sp (sh_239 o0 p1 p2 w) (fun r w' => TY w' ∧ Ev d 239 [.ref o0, .int p1, .int p2] w (cvI r) w') := by
  obtain ⟨d, rfl⟩ : ∃ d', d = d' + 1 := ⟨d - 1, by omega⟩
  refine ev_of (M := M239) zin_239 rfl (by decide) rfl (Nat.le_of_ble_eq_true rfl) (Or.inr ⟨o0, _, rfl, ho0⟩) hT ?_
  show sp _ (PP (Ev d) M239 (KR cvI) (0, [(0, .ref o0), (1, .int p1), (2, .int p2)], [], w))
  unfold sh_239
  refine s_const rfl ?_
  refine s_istoreF [(0, .ref o0), (1, .int p1), (2, .int p2), (3, .int 0)] rfl (subl_c rfl (subl_c rfl (subl_c rfl (subl_c rfl (subl_n))))) ?_
  let lvL2 : Int32 → List (Nat × Value) := fun s7 => [(0, .ref o0), (1, .int p1), (2, .int p2), (3, .int s7)]
  refine s_loop lvL2 (subl_c rfl (subl_c rfl (subl_c rfl (subl_c rfl (subl_n))))) hT (fun v3_1 w3 hT3 => ?_)
  show sp _ (PP _ _ _ (2, [(0, .ref o0), (1, .int p1), (2, .int p2), (3, .int v3_1)], [], w3))
  refine s_iload rfl rfl ?_
  refine s_aload rfl rfl ?_
  refine s_getF rfl hT3 ho0 rfl ?_
  refine s_const rfl ?_
  refine s_iald rfl hT3 (of_10_6 ho0) ?_
  refine sp_ite (fun h4 => ?_) (fun h4 => ?_)
  · refine s_ic0 rfl (zc_ge0 h4) ?_
    refine s_aload rfl rfl ?_
    refine s_getF rfl hT3 ho0 rfl ?_
    refine s_const rfl ?_
    refine s_iload rfl rfl ?_
    refine s_bin rfl rfl ?_
    refine s_iald rfl hT3 (of_10_6 ho0) ?_
    refine s_aload rfl rfl ?_
    refine s_getF rfl hT3 ho0 rfl ?_
    refine s_const rfl ?_
    refine s_iald rfl hT3 (of_10_6 ho0) ?_
    refine s_iload rfl rfl ?_
    refine s_bin rfl rfl ?_
    refine s_bin rfl rfl ?_
    refine s_iload rfl rfl ?_
    refine sp_ite (fun h5 => ?_) (fun h5 => ?_)
    · refine s_ic0 rfl (zc_ne0 h5) ?_
      refine s_iload rfl rfl ?_
      exact s_retI rfl rfl hT3 (fun _ _ h => h)
    · refine s_ic1 rfl (zc_ne1 h5) ?_
      refine s_iincF (fun v3_6 => [(0, .ref o0), (1, .int p1), (2, .int p2), (3, .int v3_6)]) rfl rfl (fun _ => subl_c rfl (subl_c rfl (subl_c rfl (subl_c rfl (subl_n))))) (fun v3_6 => ?_)
      refine s_goto rfl ?_
      exact s_back (lvL := lvL2) (s' := v3_6) (subl_c rfl (subl_c rfl (subl_c rfl (subl_c rfl (subl_n))))) hT3 (fun _ _ h => h)
  · refine s_ic1 rfl (zc_ge1 h4) ?_
    refine s_const rfl ?_
    exact s_retI rfl rfl hT3 (fun _ _ h => h)
/-- RugReaderModel.who(I)I -/
def sh_238 (o0 : Nat) (p1 : Int32) (w : Wd) : Option (Int32 × Wd) := stI w o0 0 0 (fun w1 => itM (fun (s17 : Int32 × Int32) (w5 : Wd) => match s17 with | (v2_2, v3_3) => gd (ib 2 10265) (if v3_3 < wI w5 (o0 + 2) (ix 2) then (cl (sh_239 o0 v3_3 p1 w5) (fun r8 w7 => lt (if 0 ≤ r8 then 1 <<< (v3_3 &&& 31) else 0 : Int32) (fun z9 => lt (v2_2 ||| z9 : Int32) (fun v2_10 => lt (v3_3 + 1 : Int32) (fun v3_11 => some (.inl (v2_10, v3_11), w7)))))) else (lt (if v2_2 = 0 then (-1) else v2_2 : Int32) (fun z14 => some (.inr (z14), w5))))) FU (0, 0) w1)
set_option maxRecDepth 20000 in
set_option maxHeartbeats 4000000 in
theorem ev_238 {d : Nat} (hd : 2 ≤ d) {o0 : Nat} {p1 : Int32} {w : Wd} (hT : TY w) (ho0 : ist o0 10) : sp (sh_238 o0 p1 w) (fun r w' => TY w' ∧ Ev d 238 [.ref o0, .int p1] w (cvI r) w') := by
  obtain ⟨d, rfl⟩ : ∃ d', d = d' + 1 := ⟨d - 1, by omega⟩
  refine ev_of (M := M238) zin_238 rfl (by decide) rfl (Nat.le_of_ble_eq_true rfl) (Or.inr ⟨o0, _, rfl, ho0⟩) hT ?_
  show sp _ (PP (Ev d) M238 (KR cvI) (0, [(0, .ref o0), (1, .int p1)], [], w))
  unfold sh_238
  refine s_aload rfl rfl ?_
  refine s_const rfl ?_
  refine s_putI rfl hT ho0 rfl (fun w1 hT1 => ?_)
  refine s_const rfl ?_
  refine s_istoreF [(0, .ref o0), (1, .int p1), (2, .int 0)] rfl (subl_c rfl (subl_c rfl (subl_c rfl (subl_n)))) ?_
  refine s_const rfl ?_
  refine s_istoreF [(0, .ref o0), (1, .int p1), (2, .int 0), (3, .int 0)] rfl (subl_c rfl (subl_c rfl (subl_c rfl (subl_c rfl (subl_n))))) ?_
  let lvL4 : Int32 × Int32 → List (Nat × Value) := fun s17 => [(0, .ref o0), (1, .int p1), (2, .int (s17.1)), (3, .int (s17.2))]
  refine s_loop lvL4 (subl_c rfl (subl_c rfl (subl_c rfl (subl_c rfl (subl_n))))) hT1 (fun s17 w5 hT5 => ?_)
  obtain ⟨v2_2, v3_3⟩ := s17
  show sp _ (PP _ _ _ (9, [(0, .ref o0), (1, .int p1), (2, .int v2_2), (3, .int v3_3)], [], w5))
  refine s_iload rfl rfl ?_
  refine s_aload rfl rfl ?_
  refine s_getF rfl hT5 ho0 rfl ?_
  refine s_const rfl ?_
  refine s_iald rfl hT5 (of_10_6 ho0) ?_
  refine sp_ite (fun h6 => ?_) (fun h6 => ?_)
  · refine s_ic0 rfl (zc_ge0 h6) ?_
    refine s_iload rfl rfl ?_
    refine s_aload rfl rfl ?_
    refine s_iload rfl rfl ?_
    refine s_iload rfl rfl ?_
    refine s_callI [.ref o0, .int v3_3, .int p1] [.int v2_2] rfl rfl (Nat.le_of_ble_eq_true rfl) (ev_239 (d := d) (by omega) hT5 ho0) (fun r8 w7 hT7 => ?_)
    refine sp_lt (fun z9 hz9 => ?_)
    refine s_dia (36, [(0, .ref o0), (1, .int p1), (2, .int v2_2), (3, .int v3_3)], [.int z9, .int v2_2], w7) ?_ (fun hk12 => ?_)
    · refine s_bin rfl rfl ?_
      refine s_nmI (fun v2_10 => ?_)
      refine s_istoreF [(0, .ref o0), (1, .int p1), (2, .int v2_10), (3, .int v3_3)] rfl (subl_c rfl (subl_c rfl (subl_c rfl (subl_c rfl (subl_n))))) ?_
      refine s_iincF (fun v3_11 => [(0, .ref o0), (1, .int p1), (2, .int v2_10), (3, .int v3_11)]) rfl rfl (fun _ => subl_c rfl (subl_c rfl (subl_c rfl (subl_c rfl (subl_n))))) (fun v3_11 => ?_)
      refine s_goto rfl ?_
      exact s_back (lvL := lvL4) (s' := (v2_10, v3_11)) (subl_c rfl (subl_c rfl (subl_c rfl (subl_c rfl (subl_n))))) hT7 (fun _ _ h => h)
    · by_cases h13 : 0 ≤ r8
      · refine s_if0 rfl (zc_lt0 h13) ?_
        refine s_const rfl ?_
        refine s_iload rfl rfl ?_
        refine s_bin rfl rfl ?_
        refine s_goto rfl ?_
        refine s_cong ?_ hk12
        (rw [hz9, if_pos h13])
      · refine s_if1 rfl (zc_lt1 h13) ?_
        refine s_const rfl ?_
        refine s_cong ?_ hk12
        (rw [hz9, if_neg h13])
  · refine s_ic1 rfl (zc_ge1 h6) ?_
    refine s_iload rfl rfl ?_
    refine sp_lt (fun z14 hz14 => ?_)
    refine s_dia (53, [(0, .ref o0), (1, .int p1), (2, .int v2_2), (3, .int v3_3)], [.int z14], w5) ?_ (fun hk15 => ?_)
    · exact s_retI rfl rfl hT5 (fun _ _ h => h)
    · by_cases h16 : v2_2 = 0
      · refine s_if0 rfl (zc_ne0 h16) ?_
        refine s_const rfl ?_
        refine s_goto rfl ?_
        refine s_cong ?_ hk15
        (rw [hz14, if_pos h16])
      · refine s_if1 rfl (zc_ne1 h16) ?_
        refine s_iload rfl rfl ?_
        refine s_cong ?_ hk15
        (rw [hz14, if_neg h16])
/-- RugReaderModel.age(II)I -/
def sh_240 (o0 : Nat) (p1 : Int32) (p2 : Int32) (w : Wd) : Option (Int32 × Wd) := stI w o0 0 0 (fun w1 => cl (sh_211 o0 p1 w1) (fun r3 w2 => if r3 = true then (cl (sh_239 o0 p1 p2 w2) (fun r6 w5 => some (r6, w5))) else (some ((-1), w2))))
set_option maxRecDepth 20000 in
set_option maxHeartbeats 4000000 in
theorem ev_240 {d : Nat} (hd : 3 ≤ d) {o0 : Nat} {p1 : Int32} {p2 : Int32} {w : Wd} (hT : TY w) (ho0 : ist o0 10) : sp (sh_240 o0 p1 p2 w) (fun r w' => TY w' ∧ Ev d 240 [.ref o0, .int p1, .int p2] w (cvI r) w') := by
  obtain ⟨d, rfl⟩ : ∃ d', d = d' + 1 := ⟨d - 1, by omega⟩
  refine ev_of (M := M240) zin_240 rfl (by decide) rfl (Nat.le_of_ble_eq_true rfl) (Or.inr ⟨o0, _, rfl, ho0⟩) hT ?_
  show sp _ (PP (Ev d) M240 (KR cvI) (0, [(0, .ref o0), (1, .int p1), (2, .int p2)], [], w))
  unfold sh_240
  refine s_aload rfl rfl ?_
  refine s_const rfl ?_
  refine s_putI rfl hT ho0 rfl (fun w1 hT1 => ?_)
  refine s_aload rfl rfl ?_
  refine s_iload rfl rfl ?_
  refine s_callZ [.ref o0, .int p1] [] rfl rfl (Nat.le_of_ble_eq_true rfl) (ev_211 (d := d) (by omega) hT1 ho0) (fun r3 w2 hT2 => ?_)
  refine sp_ite (fun h4 => ?_) (fun h4 => ?_)
  · refine s_if0 rfl (zb_eq0 h4) ?_
    refine s_aload rfl rfl ?_
    refine s_iload rfl rfl ?_
    refine s_iload rfl rfl ?_
    refine s_callI [.ref o0, .int p1, .int p2] [] rfl rfl (Nat.le_of_ble_eq_true rfl) (ev_239 (d := d) (by omega) hT2 ho0) (fun r6 w5 hT5 => ?_)
    refine s_goto rfl ?_
    exact s_retI rfl rfl hT5 (fun _ _ h => h)
  · refine s_if1 rfl (zb_eq1 h4) ?_
    refine s_const rfl ?_
    exact s_retI rfl rfl hT2 (fun _ _ h => h)
/-- RugReaderModel.octet(I)I -/
def sh_242 (o0 : Nat) (p1 : Int32) (w : Wd) : Option (Int32 × Wd) := gd (ib p1 940) (some ((wI w (o0 + 1) (ix p1)) &&& 255, w))
set_option maxRecDepth 20000 in
set_option maxHeartbeats 4000000 in
theorem ev_242 {d : Nat} (hd : 1 ≤ d) {o0 : Nat} {p1 : Int32} {w : Wd} (hT : TY w) (ho0 : ist o0 10) : sp (sh_242 o0 p1 w) (fun r w' => TY w' ∧ Ev d 242 [.ref o0, .int p1] w (cvI r) w') := by
  obtain ⟨d, rfl⟩ : ∃ d', d = d' + 1 := ⟨d - 1, by omega⟩
  refine ev_of (M := M242) zin_242 rfl (by decide) rfl (Nat.le_of_ble_eq_true rfl) (Or.inr ⟨o0, _, rfl, ho0⟩) hT ?_
  show sp _ (PP (Ev d) M242 (KR cvI) (0, [(0, .ref o0), (1, .int p1)], [], w))
  unfold sh_242
  refine s_aload rfl rfl ?_
  refine s_getF rfl hT ho0 rfl ?_
  refine s_iload rfl rfl ?_
  refine s_bald rfl hT (of_10_1 ho0) (Or.inl rfl) ?_
  refine s_const rfl ?_
  refine s_bin rfl rfl ?_
  exact s_retI rfl rfl hT (fun _ _ h => h)
/-- RugReaderModel.isReading(I)Z -/
def sh_243 (o0 : Nat) (p1 : Int32) (w : Wd) : Option (Bool × Wd) := itM (fun (v2_1 : Int32) (w3 : Wd) => if v2_1 < p1 then (itM (fun (s29 : Int32 × Int32 × Int32) (w9 : Wd) => match s29 with | (v3_5, v4_6, v5_7) => gd (ib 3 10265) (if v5_7 < wI w9 (o0 + 2) (ix 3) then (gd (ib v5_7 6) (if wI w9 (o0 + 9) (ix v5_7) = 0 then (lt (v5_7 + 1 : Int32) (fun v5_12 => some (.inl (v3_5, v4_6, v5_12), w9))) else (gd (ib ((6 * v2_1) + v5_7) 48) (if wI w9 (o0 + 8) (ix ((6 * v2_1) + v5_7)) = 0 then (lt (v5_7 + 1 : Int32) (fun v5_14 => some (.inl (v3_5, v4_6, v5_14), w9))) else (gd (ib ((6 * v2_1) + v5_7) 48) (gd (ib v5_7 6) (gd (ib ((7 + (wI w9 (o0 + 9) (ix v5_7))) - 1) 10265) (gd (ib 6 10265) (lt (v3_5 + (((wI w9 (o0 + 8) (ix ((6 * v2_1) + v5_7))) * (wI w9 (o0 + 2) (ix ((7 + (wI w9 (o0 + 9) (ix v5_7))) - 1)))) * (wI w9 (o0 + 2) (ix 6))) : Int32) (fun v3_15 => gd (ib v5_7 6) (gd (ib ((13 + (wI w9 (o0 + 9) (ix v5_7))) - 1) 10265) (lt (wI w9 (o0 + 2) (ix ((13 + (wI w9 (o0 + 9) (ix v5_7))) - 1)) : Int32) (fun v4_16 => lt (v5_7 + 1 : Int32) (fun v5_17 => some (.inl (v3_15, v4_16, v5_17), w9))))))))))))))) else (cl (sh_242 o0 ((4 * v2_1) + 2) w9) (fun r19 w18 => if v3_5 = r19 then (cl (sh_242 o0 ((4 * v2_1) + 3) w18) (fun r22 w21 => if r22 = 255 then (lt (v2_1 + 1 : Int32) (fun v2_24 => some (.inr (.inl v2_24), w21))) else (cl (sh_242 o0 ((4 * v2_1) + 3) w21) (fun r26 w25 => if r26 = v4_6 then (lt (v2_1 + 1 : Int32) (fun v2_28 => some (.inr (.inl v2_28), w25))) else (some (.inr (.inr (false)), w25)))))) else (some (.inr (.inr (false)), w18)))))) FU (0, (-1), 0) w3) else (some (.inr (true), w3))) FU 0 w
set_option maxRecDepth 20000 in
set_option maxHeartbeats 4000000 in
theorem ev_243 {d : Nat} (hd : 2 ≤ d) {o0 : Nat} {p1 : Int32} {w : Wd} (hT : TY w) (ho0 : ist o0 10) : sp (sh_243 o0 p1 w) (fun r w' => TY w' ∧ Ev d 243 [.ref o0, .int p1] w (cvZ r) w') := by
  obtain ⟨d, rfl⟩ : ∃ d', d = d' + 1 := ⟨d - 1, by omega⟩
  refine ev_of (M := M243) zin_243 rfl (by decide) rfl (Nat.le_of_ble_eq_true rfl) (Or.inr ⟨o0, _, rfl, ho0⟩) hT ?_
  show sp _ (PP (Ev d) M243 (KR cvZ) (0, [(0, .ref o0), (1, .int p1)], [], w))
  unfold sh_243
  refine s_const rfl ?_
  refine s_istoreF [(0, .ref o0), (1, .int p1), (2, .int 0)] rfl (subl_c rfl (subl_c rfl (subl_c rfl (subl_n)))) ?_
  let lvL2 : Int32 → List (Nat × Value) := fun s30 => [(0, .ref o0), (1, .int p1), (2, .int s30)]
  refine s_loop lvL2 (subl_c rfl (subl_c rfl (subl_c rfl (subl_n)))) hT (fun v2_1 w3 hT3 => ?_)
  show sp _ (PP _ _ _ (2, [(0, .ref o0), (1, .int p1), (2, .int v2_1)], [], w3))
  refine s_iload rfl rfl ?_
  refine s_iload rfl rfl ?_
  refine sp_ite (fun h4 => ?_) (fun h4 => ?_)
  · refine s_ic0 rfl (zc_ge0 h4) ?_
    refine s_const rfl ?_
    refine s_istoreF [(0, .ref o0), (1, .int p1), (2, .int v2_1), (3, .int 0)] rfl (subl_c rfl (subl_c rfl (subl_c rfl (subl_c rfl (subl_n))))) ?_
    refine s_const rfl ?_
    refine s_istoreF [(0, .ref o0), (1, .int p1), (2, .int v2_1), (3, .int 0), (4, .int (-1))] rfl (subl_c rfl (subl_c rfl (subl_c rfl (subl_c rfl (subl_c rfl (subl_n)))))) ?_
    refine s_const rfl ?_
    refine s_istoreF [(0, .ref o0), (1, .int p1), (2, .int v2_1), (3, .int 0), (4, .int (-1)), (5, .int 0)] rfl (subl_c rfl (subl_c rfl (subl_c rfl (subl_c rfl (subl_c rfl (subl_c rfl (subl_n))))))) ?_
    let lvL8 : Int32 × Int32 × Int32 → List (Nat × Value) := fun s29 => [(0, .ref o0), (1, .int p1), (2, .int v2_1), (3, .int (s29.1)), (4, .int (s29.2.1)), (5, .int (s29.2.2))]
    refine s_loop lvL8 (subl_c rfl (subl_c rfl (subl_c rfl (subl_c rfl (subl_c rfl (subl_c rfl (subl_n))))))) hT3 (fun s29 w9 hT9 => ?_)
    obtain ⟨v3_5, v4_6, v5_7⟩ := s29
    show sp _ (PP _ _ _ (15, [(0, .ref o0), (1, .int p1), (2, .int v2_1), (3, .int v3_5), (4, .int v4_6), (5, .int v5_7)], [], w9))
    refine s_iload rfl rfl ?_
    refine s_aload rfl rfl ?_
    refine s_getF rfl hT9 ho0 rfl ?_
    refine s_const rfl ?_
    refine s_iald rfl hT9 (of_10_6 ho0) ?_
    refine sp_ite (fun h10 => ?_) (fun h10 => ?_)
    · refine s_ic0 rfl (zc_ge0 h10) ?_
      refine s_aload rfl rfl ?_
      refine s_getF rfl hT9 ho0 rfl ?_
      refine s_iload rfl rfl ?_
      refine s_iald rfl hT9 (of_10_25 ho0) ?_
      refine sp_ite (fun h11 => ?_) (fun h11 => ?_)
      · refine s_if1 rfl (zc_eq1 h11) ?_
        refine s_iincF (fun v5_12 => [(0, .ref o0), (1, .int p1), (2, .int v2_1), (3, .int v3_5), (4, .int v4_6), (5, .int v5_12)]) rfl rfl (fun _ => subl_c rfl (subl_c rfl (subl_c rfl (subl_c rfl (subl_c rfl (subl_c rfl (subl_n))))))) (fun v5_12 => ?_)
        refine s_goto rfl ?_
        exact s_back (lvL := lvL8) (s' := (v3_5, v4_6, v5_12)) (subl_c rfl (subl_c rfl (subl_c rfl (subl_c rfl (subl_c rfl (subl_c rfl (subl_n))))))) hT9 (fun _ _ h => h)
      · refine s_if0 rfl (zc_eq0 h11) ?_
        refine s_aload rfl rfl ?_
        refine s_getF rfl hT9 ho0 rfl ?_
        refine s_const rfl ?_
        refine s_iload rfl rfl ?_
        refine s_bin rfl rfl ?_
        refine s_iload rfl rfl ?_
        refine s_bin rfl rfl ?_
        refine s_iald rfl hT9 (of_10_24 ho0) ?_
        refine sp_ite (fun h13 => ?_) (fun h13 => ?_)
        · refine s_if0 rfl (zc_ne0 h13) ?_
          refine s_goto rfl ?_
          refine s_iincF (fun v5_14 => [(0, .ref o0), (1, .int p1), (2, .int v2_1), (3, .int v3_5), (4, .int v4_6), (5, .int v5_14)]) rfl rfl (fun _ => subl_c rfl (subl_c rfl (subl_c rfl (subl_c rfl (subl_c rfl (subl_c rfl (subl_n))))))) (fun v5_14 => ?_)
          refine s_goto rfl ?_
          exact s_back (lvL := lvL8) (s' := (v3_5, v4_6, v5_14)) (subl_c rfl (subl_c rfl (subl_c rfl (subl_c rfl (subl_c rfl (subl_c rfl (subl_n))))))) hT9 (fun _ _ h => h)
        · refine s_if1 rfl (zc_ne1 h13) ?_
          refine s_iload rfl rfl ?_
          refine s_aload rfl rfl ?_
          refine s_getF rfl hT9 ho0 rfl ?_
          refine s_const rfl ?_
          refine s_iload rfl rfl ?_
          refine s_bin rfl rfl ?_
          refine s_iload rfl rfl ?_
          refine s_bin rfl rfl ?_
          refine s_iald rfl hT9 (of_10_24 ho0) ?_
          refine s_aload rfl rfl ?_
          refine s_getF rfl hT9 ho0 rfl ?_
          refine s_const rfl ?_
          refine s_aload rfl rfl ?_
          refine s_getF rfl hT9 ho0 rfl ?_
          refine s_iload rfl rfl ?_
          refine s_iald rfl hT9 (of_10_25 ho0) ?_
          refine s_bin rfl rfl ?_
          refine s_const rfl ?_
          refine s_bin rfl rfl ?_
          refine s_iald rfl hT9 (of_10_6 ho0) ?_
          refine s_bin rfl rfl ?_
          refine s_aload rfl rfl ?_
          refine s_getF rfl hT9 ho0 rfl ?_
          refine s_const rfl ?_
          refine s_iald rfl hT9 (of_10_6 ho0) ?_
          refine s_bin rfl rfl ?_
          refine s_bin rfl rfl ?_
          refine s_nmI (fun v3_15 => ?_)
          refine s_istoreF [(0, .ref o0), (1, .int p1), (2, .int v2_1), (3, .int v3_15), (5, .int v5_7)] rfl (subl_c rfl (subl_c rfl (subl_c rfl (subl_c rfl (subl_c rfl (subl_n)))))) ?_
          refine s_aload rfl rfl ?_
          refine s_getF rfl hT9 ho0 rfl ?_
          refine s_const rfl ?_
          refine s_aload rfl rfl ?_
          refine s_getF rfl hT9 ho0 rfl ?_
          refine s_iload rfl rfl ?_
          refine s_iald rfl hT9 (of_10_25 ho0) ?_
          refine s_bin rfl rfl ?_
          refine s_const rfl ?_
          refine s_bin rfl rfl ?_
          refine s_iald rfl hT9 (of_10_6 ho0) ?_
          refine s_nmI (fun v4_16 => ?_)
          refine s_istoreF [(0, .ref o0), (1, .int p1), (2, .int v2_1), (3, .int v3_15), (4, .int v4_16), (5, .int v5_7)] rfl (subl_c rfl (subl_c rfl (subl_c rfl (subl_c rfl (subl_c rfl (subl_c rfl (subl_n))))))) ?_
          refine s_iincF (fun v5_17 => [(0, .ref o0), (1, .int p1), (2, .int v2_1), (3, .int v3_15), (4, .int v4_16), (5, .int v5_17)]) rfl rfl (fun _ => subl_c rfl (subl_c rfl (subl_c rfl (subl_c rfl (subl_c rfl (subl_c rfl (subl_n))))))) (fun v5_17 => ?_)
          refine s_goto rfl ?_
          exact s_back (lvL := lvL8) (s' := (v3_15, v4_16, v5_17)) (subl_c rfl (subl_c rfl (subl_c rfl (subl_c rfl (subl_c rfl (subl_c rfl (subl_n))))))) hT9 (fun _ _ h => h)
    · refine s_ic1 rfl (zc_ge1 h10) ?_
      refine s_iload rfl rfl ?_
      refine s_aload rfl rfl ?_
      refine s_const rfl ?_
      refine s_iload rfl rfl ?_
      refine s_bin rfl rfl ?_
      refine s_const rfl ?_
      refine s_bin rfl rfl ?_
      refine s_callI [.ref o0, .int ((4 * v2_1) + 2)] [.int v3_5] rfl rfl (Nat.le_of_ble_eq_true rfl) (ev_242 (d := d) (by omega) hT9 ho0) (fun r19 w18 hT18 => ?_)
      refine sp_ite (fun h20 => ?_) (fun h20 => ?_)
      · refine s_ic0 rfl (zc_ne0 h20) ?_
        refine s_aload rfl rfl ?_
        refine s_const rfl ?_
        refine s_iload rfl rfl ?_
        refine s_bin rfl rfl ?_
        refine s_const rfl ?_
        refine s_bin rfl rfl ?_
        refine s_callI [.ref o0, .int ((4 * v2_1) + 3)] [] rfl rfl (Nat.le_of_ble_eq_true rfl) (ev_242 (d := d) (by omega) hT18 ho0) (fun r22 w21 hT21 => ?_)
        refine s_const rfl ?_
        refine sp_ite (fun h23 => ?_) (fun h23 => ?_)
        · refine s_ic1 rfl (zc_eq1 h23) ?_
          refine s_iincF (fun v2_24 => [(0, .ref o0), (1, .int p1), (2, .int v2_24)]) rfl rfl (fun _ => subl_c rfl (subl_c rfl (subl_c rfl (subl_n)))) (fun v2_24 => ?_)
          refine s_goto rfl ?_
          exact s_back (lvL := lvL2) (s' := v2_24) (subl_c rfl (subl_c rfl (subl_c rfl (subl_n)))) hT21 (fun _ _ h => h)
        · refine s_ic0 rfl (zc_eq0 h23) ?_
          refine s_aload rfl rfl ?_
          refine s_const rfl ?_
          refine s_iload rfl rfl ?_
          refine s_bin rfl rfl ?_
          refine s_const rfl ?_
          refine s_bin rfl rfl ?_
          refine s_callI [.ref o0, .int ((4 * v2_1) + 3)] [] rfl rfl (Nat.le_of_ble_eq_true rfl) (ev_242 (d := d) (by omega) hT21 ho0) (fun r26 w25 hT25 => ?_)
          refine s_iload rfl rfl ?_
          refine sp_ite (fun h27 => ?_) (fun h27 => ?_)
          · refine s_ic1 rfl (zc_eq1 h27) ?_
            refine s_iincF (fun v2_28 => [(0, .ref o0), (1, .int p1), (2, .int v2_28)]) rfl rfl (fun _ => subl_c rfl (subl_c rfl (subl_c rfl (subl_n)))) (fun v2_28 => ?_)
            refine s_goto rfl ?_
            exact s_back (lvL := lvL2) (s' := v2_28) (subl_c rfl (subl_c rfl (subl_c rfl (subl_n)))) hT25 (fun _ _ h => h)
          · refine s_ic0 rfl (zc_eq0 h27) ?_
            refine s_const rfl ?_
            exact s_retZ (z := false) rfl rfl hT25 (fun _ _ h => h)
      · refine s_ic1 rfl (zc_ne1 h20) ?_
        refine s_const rfl ?_
        exact s_retZ (z := false) rfl rfl hT18 (fun _ _ h => h)
  · refine s_ic1 rfl (zc_ge1 h4) ?_
    refine s_const rfl ?_
    exact s_retZ (z := true) rfl rfl hT3 (fun _ _ h => h)
/-- RugReaderModel.reads(Z)V -/
def sh_244 (o0 : Nat) (p1 : Bool) (w : Wd) : Option (Unit × Wd) := itM (fun (s37 : Int32 × Int32) (w4 : Wd) => match s37 with | (v2_1, v3_2) => gd (ib 3 10265) (if v3_2 < wI w4 (o0 + 2) (ix 3) then (gd (ib v3_2 6) (jn (fun (v2_7 : Int32) (w8 : Wd) => jn (fun (s18 : Unit) (w10 : Wd) => gd (ib v3_2 6) (gd (ib v3_2 6) (if wI w10 (o0 + 11) (ix v3_2) = (wI w10 (o0 + 9) (ix v3_2)) - 1 then (lt (v3_2 + 1 : Int32) (fun v3_12 => some (.inl (v2_7, v3_12), w10))) else (gd (ib v3_2 6) (stI w10 (o0 + 11) (ix v3_2) (-2) (fun w13 => lt (v3_2 + 1 : Int32) (fun v3_14 => some (.inl (v2_7, v3_14), w13)))))))) (fun j9 => if p1 = true then (gd (ib v3_2 6) (gd (ib v3_2 6) (stI w8 (o0 + 10) (ix v3_2) ((wI w8 (o0 + 9) (ix v3_2)) - 1) (fun w16 => gd (ib v3_2 6) (gd (ib v3_2 6) (stI w16 (o0 + 11) (ix v3_2) ((wI w16 (o0 + 9) (ix v3_2)) - 1) (fun w17 => j9 () w17))))))) else (j9 () w8))) (fun j6 => if 0 < wI w4 (o0 + 9) (ix v3_2) then (gd (ib v3_2 6) (lt (v2_1 ||| (1 <<< ((wI w4 (o0 + 9) (ix v3_2)) &&& 31)) : Int32) (fun v2_20 => j6 v2_20 w4))) else (j6 v2_1 w4)))) else (itM (fun (s36 : Int32 × Int32) (w25 : Wd) => match s36 with | (v3_22, v4_23) => if v4_23 < 7 then (lt (v3_22 + ((v2_1 >>> (v4_23 &&& 31)) &&& 1) : Int32) (fun v3_27 => lt (v4_23 + 1 : Int32) (fun v4_28 => some (.inl (v3_27, v4_28), w25)))) else (if p1 = true then (stI w25 o0 29 v3_22 (fun w30 => gd (ib 3 10265) (stI w30 o0 28 (wI w30 (o0 + 2) (ix 3)) (fun w31 => some (.inr (.inr (())), w31))))) else (if v3_22 < wI w25 o0 29 then (stI w25 o0 29 v3_22 (fun w33 => gd (ib 3 10265) (stI w33 o0 28 (wI w33 (o0 + 2) (ix 3)) (fun w34 => some (.inr (.inr (())), w34))))) else (gd (ib 3 10265) (stI w25 o0 28 (wI w25 (o0 + 2) (ix 3)) (fun w35 => some (.inr (.inr (())), w35))))))) FU (0, 1) w4))) FU (0, 0) w
set_option maxRecDepth 20000 in
set_option maxHeartbeats 4000000 in
theorem ev_244 {d : Nat} (hd : 1 ≤ d) {o0 : Nat} {p1 : Bool} {w : Wd} (hT : TY w) (ho0 : ist o0 10) : sp (sh_244 o0 p1 w) (fun r w' => TY w' ∧ Ev d 244 [.ref o0, .int (bi p1)] w (cvV r) w') := by
  obtain ⟨d, rfl⟩ : ∃ d', d = d' + 1 := ⟨d - 1, by omega⟩
  refine ev_of (M := M244) zin_244 rfl (by decide) rfl (Nat.le_of_ble_eq_true rfl) (Or.inr ⟨o0, _, rfl, ho0⟩) hT ?_
  show sp _ (PP (Ev d) M244 (KR cvV) (0, [(0, .ref o0), (1, .int (bi p1))], [], w))
  unfold sh_244
  refine s_const rfl ?_
  refine s_istoreF [(0, .ref o0), (1, .int (bi p1)), (2, .int 0)] rfl (subl_c rfl (subl_c rfl (subl_c rfl (subl_n)))) ?_
  refine s_const rfl ?_
  refine s_istoreF [(0, .ref o0), (1, .int (bi p1)), (2, .int 0), (3, .int 0)] rfl (subl_c rfl (subl_c rfl (subl_c rfl (subl_c rfl (subl_n))))) ?_
  let lvL3 : Int32 × Int32 → List (Nat × Value) := fun s37 => [(0, .ref o0), (1, .int (bi p1)), (2, .int (s37.1)), (3, .int (s37.2))]
  refine s_loop lvL3 (subl_c rfl (subl_c rfl (subl_c rfl (subl_c rfl (subl_n))))) hT (fun s37 w4 hT4 => ?_)
  obtain ⟨v2_1, v3_2⟩ := s37
  show sp _ (PP _ _ _ (4, [(0, .ref o0), (1, .int (bi p1)), (2, .int v2_1), (3, .int v3_2)], [], w4))
  refine s_iload rfl rfl ?_
  refine s_aload rfl rfl ?_
  refine s_getF rfl hT4 ho0 rfl ?_
  refine s_const rfl ?_
  refine s_iald rfl hT4 (of_10_6 ho0) ?_
  refine sp_ite (fun h5 => ?_) (fun h5 => ?_)
  · refine s_ic0 rfl (zc_ge0 h5) ?_
    refine s_aload rfl rfl ?_
    refine s_getF rfl hT4 ho0 rfl ?_
    refine s_iload rfl rfl ?_
    refine s_iald rfl hT4 (of_10_25 ho0) ?_
    refine s_jnP (fun (s21 : Int32) w => (34, [(0, .ref o0), (1, .int (bi p1)), (2, .int s21), (3, .int v3_2)], [], w)) (fun v2_7 w8 hT8 => ?_) (fun j6 hj6 => ?_)
    · show sp _ (PP _ _ _ (34, [(0, .ref o0), (1, .int (bi p1)), (2, .int v2_7), (3, .int v3_2)], [], w8))
      refine s_iload rfl rfl ?_
      refine s_jnP (fun (s18 : Unit) w => (66, [(0, .ref o0), (1, .int (bi p1)), (2, .int v2_7), (3, .int v3_2)], [], w)) (fun s18 w10 hT10 => ?_) (fun j9 hj9 => ?_)
      · show sp _ (PP _ _ _ (66, [(0, .ref o0), (1, .int (bi p1)), (2, .int v2_7), (3, .int v3_2)], [], w10))
        refine s_aload rfl rfl ?_
        refine s_getF rfl hT10 ho0 rfl ?_
        refine s_iload rfl rfl ?_
        refine s_iald rfl hT10 (of_10_27 ho0) ?_
        refine s_aload rfl rfl ?_
        refine s_getF rfl hT10 ho0 rfl ?_
        refine s_iload rfl rfl ?_
        refine s_iald rfl hT10 (of_10_25 ho0) ?_
        refine s_const rfl ?_
        refine s_bin rfl rfl ?_
        refine sp_ite (fun h11 => ?_) (fun h11 => ?_)
        · refine s_ic1 rfl (zc_eq1 h11) ?_
          refine s_iincF (fun v3_12 => [(0, .ref o0), (1, .int (bi p1)), (2, .int v2_7), (3, .int v3_12)]) rfl rfl (fun _ => subl_c rfl (subl_c rfl (subl_c rfl (subl_c rfl (subl_n))))) (fun v3_12 => ?_)
          refine s_goto rfl ?_
          exact s_back (lvL := lvL3) (s' := (v2_7, v3_12)) (subl_c rfl (subl_c rfl (subl_c rfl (subl_c rfl (subl_n))))) hT10 (fun _ _ h => h)
        · refine s_ic0 rfl (zc_eq0 h11) ?_
          refine s_aload rfl rfl ?_
          refine s_getF rfl hT10 ho0 rfl ?_
          refine s_iload rfl rfl ?_
          refine s_const rfl ?_
          refine s_iast rfl hT10 (of_10_27 ho0) (fun w13 hT13 => ?_)
          refine s_iincF (fun v3_14 => [(0, .ref o0), (1, .int (bi p1)), (2, .int v2_7), (3, .int v3_14)]) rfl rfl (fun _ => subl_c rfl (subl_c rfl (subl_c rfl (subl_c rfl (subl_n))))) (fun v3_14 => ?_)
          refine s_goto rfl ?_
          exact s_back (lvL := lvL3) (s' := (v2_7, v3_14)) (subl_c rfl (subl_c rfl (subl_c rfl (subl_c rfl (subl_n))))) hT13 (fun _ _ h => h)
      · refine sp_ite (fun h15 => ?_) (fun h15 => ?_)
        · refine s_if0 rfl (zb_eq0 h15) ?_
          refine s_aload rfl rfl ?_
          refine s_getF rfl hT8 ho0 rfl ?_
          refine s_iload rfl rfl ?_
          refine s_aload rfl rfl ?_
          refine s_getF rfl hT8 ho0 rfl ?_
          refine s_iload rfl rfl ?_
          refine s_iald rfl hT8 (of_10_25 ho0) ?_
          refine s_const rfl ?_
          refine s_bin rfl rfl ?_
          refine s_iast rfl hT8 (of_10_26 ho0) (fun w16 hT16 => ?_)
          refine s_aload rfl rfl ?_
          refine s_getF rfl hT16 ho0 rfl ?_
          refine s_iload rfl rfl ?_
          refine s_aload rfl rfl ?_
          refine s_getF rfl hT16 ho0 rfl ?_
          refine s_iload rfl rfl ?_
          refine s_iald rfl hT16 (of_10_25 ho0) ?_
          refine s_const rfl ?_
          refine s_bin rfl rfl ?_
          refine s_iast rfl hT16 (of_10_27 ho0) (fun w17 hT17 => ?_)
          exact s_fgt _ (subl_c rfl (subl_c rfl (subl_c rfl (subl_c rfl (subl_n))))) (hj9 () w17 hT17)
        · refine s_if1 rfl (zb_eq1 h15) ?_
          exact s_fgt _ (subl_c rfl (subl_c rfl (subl_c rfl (subl_c rfl (subl_n))))) (hj9 () w8 hT8)
    · refine sp_ite (fun h19 => ?_) (fun h19 => ?_)
      · refine s_if0 rfl (zc_le0 h19) ?_
        refine s_iload rfl rfl ?_
        refine s_const rfl ?_
        refine s_aload rfl rfl ?_
        refine s_getF rfl hT4 ho0 rfl ?_
        refine s_iload rfl rfl ?_
        refine s_iald rfl hT4 (of_10_25 ho0) ?_
        refine s_bin rfl rfl ?_
        refine s_bin rfl rfl ?_
        refine s_nmI (fun v2_20 => ?_)
        refine s_istoreF [(0, .ref o0), (1, .int (bi p1)), (2, .int v2_20), (3, .int v3_2)] rfl (subl_c rfl (subl_c rfl (subl_c rfl (subl_c rfl (subl_n))))) ?_
        exact s_fgt _ (subl_c rfl (subl_c rfl (subl_c rfl (subl_c rfl (subl_n))))) (hj6 v2_20 w4 hT4)
      · refine s_if1 rfl (zc_le1 h19) ?_
        exact s_fgt _ (subl_c rfl (subl_c rfl (subl_c rfl (subl_c rfl (subl_n))))) (hj6 v2_1 w4 hT4)
  · refine s_ic1 rfl (zc_ge1 h5) ?_
    refine s_const rfl ?_
    refine s_istoreF [(0, .ref o0), (1, .int (bi p1)), (2, .int v2_1), (3, .int 0)] rfl (subl_c rfl (subl_c rfl (subl_c rfl (subl_c rfl (subl_n))))) ?_
    refine s_const rfl ?_
    refine s_istoreF [(0, .ref o0), (1, .int (bi p1)), (2, .int v2_1), (3, .int 0), (4, .int 1)] rfl (subl_c rfl (subl_c rfl (subl_c rfl (subl_c rfl (subl_c rfl (subl_n)))))) ?_
    let lvL24 : Int32 × Int32 → List (Nat × Value) := fun s36 => [(0, .ref o0), (1, .int (bi p1)), (2, .int v2_1), (3, .int (s36.1)), (4, .int (s36.2))]
    refine s_loop lvL24 (subl_c rfl (subl_c rfl (subl_c rfl (subl_c rfl (subl_c rfl (subl_n)))))) hT4 (fun s36 w25 hT25 => ?_)
    obtain ⟨v3_22, v4_23⟩ := s36
    show sp _ (PP _ _ _ (102, [(0, .ref o0), (1, .int (bi p1)), (2, .int v2_1), (3, .int v3_22), (4, .int v4_23)], [], w25))
    refine s_iload rfl rfl ?_
    refine s_const rfl ?_
    refine sp_ite (fun h26 => ?_) (fun h26 => ?_)
    · refine s_ic0 rfl (zc_ge0 h26) ?_
      refine s_iload rfl rfl ?_
      refine s_iload rfl rfl ?_
      refine s_iload rfl rfl ?_
      refine s_bin rfl rfl ?_
      refine s_const rfl ?_
      refine s_bin rfl rfl ?_
      refine s_bin rfl rfl ?_
      refine s_nmI (fun v3_27 => ?_)
      refine s_istoreF [(0, .ref o0), (1, .int (bi p1)), (2, .int v2_1), (3, .int v3_27), (4, .int v4_23)] rfl (subl_c rfl (subl_c rfl (subl_c rfl (subl_c rfl (subl_c rfl (subl_n)))))) ?_
      refine s_iincF (fun v4_28 => [(0, .ref o0), (1, .int (bi p1)), (2, .int v2_1), (3, .int v3_27), (4, .int v4_28)]) rfl rfl (fun _ => subl_c rfl (subl_c rfl (subl_c rfl (subl_c rfl (subl_c rfl (subl_n)))))) (fun v4_28 => ?_)
      refine s_goto rfl ?_
      exact s_back (lvL := lvL24) (s' := (v3_27, v4_28)) (subl_c rfl (subl_c rfl (subl_c rfl (subl_c rfl (subl_c rfl (subl_n)))))) hT25 (fun _ _ h => h)
    · refine s_ic1 rfl (zc_ge1 h26) ?_
      refine s_iload rfl rfl ?_
      refine sp_ite (fun h29 => ?_) (fun h29 => ?_)
      · refine s_if1 rfl (zb_ne1 h29) ?_
        refine s_aload rfl rfl ?_
        refine s_iload rfl rfl ?_
        refine s_putI rfl hT25 ho0 rfl (fun w30 hT30 => ?_)
        refine s_aload rfl rfl ?_
        refine s_aload rfl rfl ?_
        refine s_getF rfl hT30 ho0 rfl ?_
        refine s_const rfl ?_
        refine s_iald rfl hT30 (of_10_6 ho0) ?_
        refine s_putI rfl hT30 ho0 rfl (fun w31 hT31 => ?_)
        exact s_retV rfl rfl hT31 (fun _ _ h => h)
      · refine s_if0 rfl (zb_ne0 h29) ?_
        refine s_iload rfl rfl ?_
        refine s_aload rfl rfl ?_
        refine s_getI rfl hT25 ho0 ?_
        refine sp_ite (fun h32 => ?_) (fun h32 => ?_)
        · refine s_ic0 rfl (zc_ge0 h32) ?_
          refine s_aload rfl rfl ?_
          refine s_iload rfl rfl ?_
          refine s_putI rfl hT25 ho0 rfl (fun w33 hT33 => ?_)
          refine s_aload rfl rfl ?_
          refine s_aload rfl rfl ?_
          refine s_getF rfl hT33 ho0 rfl ?_
          refine s_const rfl ?_
          refine s_iald rfl hT33 (of_10_6 ho0) ?_
          refine s_putI rfl hT33 ho0 rfl (fun w34 hT34 => ?_)
          exact s_retV rfl rfl hT34 (fun _ _ h => h)
        · refine s_ic1 rfl (zc_ge1 h32) ?_
          refine s_aload rfl rfl ?_
          refine s_aload rfl rfl ?_
          refine s_getF rfl hT25 ho0 rfl ?_
          refine s_const rfl ?_
          refine s_iald rfl hT25 (of_10_6 ho0) ?_
          refine s_putI rfl hT25 ho0 rfl (fun w35 hT35 => ?_)
          exact s_retV rfl rfl hT35 (fun _ _ h => h)
/-- RugReaderModel.nextReading()Z -/
def sh_245 (o0 : Nat) (w : Wd) : Option (Bool × Wd) := gd (ib 3 10265) (lt ((wI w (o0 + 2) (ix 3)) - 1 : Int32) (fun v1_1 => itM (fun (v1_2 : Int32) (w4 : Wd) => if 0 ≤ v1_2 then (gd (ib v1_2 6) (gd (ib 2 10265) (if wI w4 (o0 + 9) (ix v1_2) < wI w4 (o0 + 2) (ix 2) then (gd (ib v1_2 6) (gd (ib v1_2 6) (stI w4 (o0 + 9) (ix v1_2) ((wI w4 (o0 + 9) (ix v1_2)) + 1) (fun w7 => some (.inr (true), w7))))) else (gd (ib v1_2 6) (stI w4 (o0 + 9) (ix v1_2) 0 (fun w8 => lt (v1_2 + (-1) : Int32) (fun v1_9 => some (.inl v1_9, w8)))))))) else (some (.inr (false), w4))) FU v1_1 w))
set_option maxRecDepth 20000 in
set_option maxHeartbeats 4000000 in
theorem ev_245 {d : Nat} (hd : 1 ≤ d) {o0 : Nat} {w : Wd} (hT : TY w) (ho0 : ist o0 10) : sp (sh_245 o0 w) (fun r w' => TY w' ∧ Ev d 245 [.ref o0] w (cvZ r) w') := by
  obtain ⟨d, rfl⟩ : ∃ d', d = d' + 1 := ⟨d - 1, by omega⟩
  refine ev_of (M := M245) zin_245 rfl (by decide) rfl (Nat.le_of_ble_eq_true rfl) (Or.inr ⟨o0, _, rfl, ho0⟩) hT ?_
  show sp _ (PP (Ev d) M245 (KR cvZ) (0, [(0, .ref o0)], [], w))
  unfold sh_245
  refine s_aload rfl rfl ?_
  refine s_getF rfl hT ho0 rfl ?_
  refine s_const rfl ?_
  refine s_iald rfl hT (of_10_6 ho0) ?_
  refine s_const rfl ?_
  refine s_bin rfl rfl ?_
  refine s_nmI (fun v1_1 => ?_)
  refine s_istoreF [(0, .ref o0), (1, .int v1_1)] rfl (subl_c rfl (subl_c rfl (subl_n))) ?_
  let lvL3 : Int32 → List (Nat × Value) := fun s10 => [(0, .ref o0), (1, .int s10)]
  refine s_loop lvL3 (subl_c rfl (subl_c rfl (subl_n))) hT (fun v1_2 w4 hT4 => ?_)
  show sp _ (PP _ _ _ (9, [(0, .ref o0), (1, .int v1_2)], [], w4))
  refine s_iload rfl rfl ?_
  refine sp_ite (fun h5 => ?_) (fun h5 => ?_)
  · refine s_if0 rfl (zc_lt0 h5) ?_
    refine s_aload rfl rfl ?_
    refine s_getF rfl hT4 ho0 rfl ?_
    refine s_iload rfl rfl ?_
    refine s_iald rfl hT4 (of_10_25 ho0) ?_
    refine s_aload rfl rfl ?_
    refine s_getF rfl hT4 ho0 rfl ?_
    refine s_const rfl ?_
    refine s_iald rfl hT4 (of_10_6 ho0) ?_
    refine sp_ite (fun h6 => ?_) (fun h6 => ?_)
    · refine s_ic0 rfl (zc_ge0 h6) ?_
      refine s_aload rfl rfl ?_
      refine s_getF rfl hT4 ho0 rfl ?_
      refine s_iload rfl rfl ?_
      refine s_dup2 rfl ⟨rfl, rfl⟩ ?_
      refine s_iald rfl hT4 (of_10_25 ho0) ?_
      refine s_const rfl ?_
      refine s_bin rfl rfl ?_
      refine s_iast rfl hT4 (of_10_25 ho0) (fun w7 hT7 => ?_)
      refine s_const rfl ?_
      exact s_retZ (z := true) rfl rfl hT7 (fun _ _ h => h)
    · refine s_ic1 rfl (zc_ge1 h6) ?_
      refine s_aload rfl rfl ?_
      refine s_getF rfl hT4 ho0 rfl ?_
      refine s_iload rfl rfl ?_
      refine s_const rfl ?_
      refine s_iast rfl hT4 (of_10_25 ho0) (fun w8 hT8 => ?_)
      refine s_iincF (fun v1_9 => [(0, .ref o0), (1, .int v1_9)]) rfl rfl (fun _ => subl_c rfl (subl_c rfl (subl_n))) (fun v1_9 => ?_)
      refine s_goto rfl ?_
      exact s_back (lvL := lvL3) (s' := v1_9) (subl_c rfl (subl_c rfl (subl_n))) hT8 (fun _ _ h => h)
  · refine s_if1 rfl (zc_lt1 h5) ?_
    refine s_const rfl ?_
    exact s_retZ (z := false) rfl rfl hT4 (fun _ _ h => h)
/-- RugReaderModel.readings()I -/
def sh_241 (o0 : Nat) (w : Wd) : Option (Int32 × Wd) := stI w o0 0 0 (fun w1 => cl (sh_190 o0 940 w1) (fun _ w2 => if zrem (wI w2 o0 3) 4 = 0 then (cl (sh_199 ((wI w2 o0 3) / 4) 1 8 w2) (fun r6 w5 => if r6 = true then (lt ((wI w5 o0 3) / 4 : Int32) (fun v1_8 => itM (fun (v2_9 : Int32) (w11 : Wd) => if v2_9 < wI w11 o0 3 then (cl (sh_242 o0 v2_9 w11) (fun r14 w13 => gd (ib 0 10265) (if r14 < wI w13 (o0 + 2) (ix 0) then (cl (sh_242 o0 (v2_9 + 1) w13) (fun r17 w16 => gd (ib 1 10265) (if r17 < wI w16 (o0 + 2) (ix 1) then (cl (sh_242 o0 (v2_9 + 3) w16) (fun r20 w19 => jn (fun (s53 : Unit) (w22 : Wd) => itM (fun (v3_23 : Int32) (w25 : Wd) => if v3_23 < 6 then (itM (fun (s46 : Int32 × Int32) (w30 : Wd) => match s46 with | (v4_27, v5_28) => gd (ib (177 + v3_23) 10265) (if v5_28 < wI w30 (o0 + 2) (ix (177 + v3_23)) then (gd (ib 3 10265) (if v3_23 < wI w30 (o0 + 2) (ix 3) then (gd (ib ((183 + (41 * v3_23)) + v5_28) 10265) (cl (sh_242 o0 (v2_9 + 1) w30) (fun r34 w33 => cl (sh_242 o0 v2_9 w33) (fun r36 w35 => lt (if wI w30 (o0 + 2) (ix ((183 + (41 * v3_23)) + v5_28)) = (12 * r34) + r36 then true else false : Bool) (fun z37 => lt (v4_27 + (bi z37) : Int32) (fun v4_38 => lt (v5_28 + 1 : Int32) (fun v5_39 => some (.inl (v4_38, v5_39), w35)))))))) else (gd (ib ((6 * (v2_9 / 4)) + v3_23) 48) (stI w30 (o0 + 8) (ix ((6 * (v2_9 / 4)) + v3_23)) v4_27 (fun w42 => lt (v3_23 + 1 : Int32) (fun v3_43 => some (.inr (.inl v3_43), w42))))))) else (gd (ib ((6 * (v2_9 / 4)) + v3_23) 48) (stI w30 (o0 + 8) (ix ((6 * (v2_9 / 4)) + v3_23)) v4_27 (fun w44 => lt (v3_23 + 1 : Int32) (fun v3_45 => some (.inr (.inl v3_45), w44))))))) FU (0, 0) w25) else (lt (v2_9 + 4 : Int32) (fun v2_47 => some (.inr (.inl v2_47), w25)))) FU 0 w22) (fun j21 => if 9 < r20 then (cl (sh_242 o0 (v2_9 + 3) w19) (fun r51 w50 => if r51 = 255 then (j21 () w50) else (some (.inr ((-1)), w50)))) else (j21 () w19)))) else (some (.inr ((-1)), w16))))) else (some (.inr ((-1)), w13))))) else (itM (fun (v2_54 : Int32) (w56 : Wd) => if v2_54 < 6 then (gd (ib v2_54 6) (stI w56 (o0 + 9) (ix v2_54) 0 (fun w58 => lt (v2_54 + 1 : Int32) (fun v2_59 => some (.inl v2_59, w58))))) else (itM (fun (s78 : Int32 × Int32) (w63 : Wd) => match s78 with | (v2_60, v3_61) => if v3_61 = 0 then (some (.inr (.inr (.inr (v2_60))), w63)) else (cl (sh_243 o0 v1_8 w63) (fun r66 w65 => if r66 = true then (lt (v2_60 + 1 : Int32) (fun v2_68 => lt (if v2_68 = 1 then true else false : Bool) (fun z69 => cl (sh_244 o0 z69 w65) (fun _ w70 => cl (sh_245 o0 w70) (fun r73 w72 => some (.inl (v2_68, bi r73), w72)))))) else (cl (sh_245 o0 w65) (fun r77 w76 => some (.inl (v2_60, bi r77), w76)))))) FU (0, 1) w56)) FU 0 w11)) FU 0 w5)) else (some ((-1), w5)))) else (some ((-1), w2))))
set_option maxRecDepth 20000 in
set_option maxHeartbeats 4000000 in
theorem ev_241 {d : Nat} (hd : 3 ≤ d) {o0 : Nat} {w : Wd} (hT : TY w) (ho0 : ist o0 10) : sp (sh_241 o0 w) (fun r w' => TY w' ∧ Ev d 241 [.ref o0] w (cvI r) w') := by
  obtain ⟨d, rfl⟩ : ∃ d', d = d' + 1 := ⟨d - 1, by omega⟩
  refine ev_of (M := M241) zin_241 rfl (by decide) rfl (Nat.le_of_ble_eq_true rfl) (Or.inr ⟨o0, _, rfl, ho0⟩) hT ?_
  show sp _ (PP (Ev d) M241 (KR cvI) (0, [(0, .ref o0)], [], w))
  unfold sh_241
  refine s_aload rfl rfl ?_
  refine s_const rfl ?_
  refine s_putI rfl hT ho0 rfl (fun w1 hT1 => ?_)
  refine s_aload rfl rfl ?_
  refine s_const rfl ?_
  refine s_callV [.ref o0, .int 940] [] rfl rfl (Nat.le_of_ble_eq_true rfl) (ev_190 (d := d) (by omega) hT1 ho0) (fun _ w2 hT2 => ?_)
  refine s_aload rfl rfl ?_
  refine s_getI rfl hT2 ho0 ?_
  refine s_const rfl ?_
  refine s_rem rfl (by decide) ?_
  refine sp_ite (fun h4 => ?_) (fun h4 => ?_)
  · refine s_if0 rfl (zc_ne0 h4) ?_
    refine s_aload rfl rfl ?_
    refine s_getI rfl hT2 ho0 ?_
    refine s_const rfl ?_
    refine s_div rfl (by decide) ?_
    refine s_const rfl ?_
    refine s_const rfl ?_
    refine s_callZ [.int ((wI w2 o0 3) / 4), .int 1, .int 8] [] rfl rfl (Nat.le_of_ble_eq_true rfl) (ev_199 (d := d) (by omega) hT2 ) (fun r6 w5 hT5 => ?_)
    refine sp_ite (fun h7 => ?_) (fun h7 => ?_)
    · refine s_if1 rfl (zb_ne1 h7) ?_
      refine s_aload rfl rfl ?_
      refine s_getI rfl hT5 ho0 ?_
      refine s_const rfl ?_
      refine s_div rfl (by decide) ?_
      refine s_nmI (fun v1_8 => ?_)
      refine s_istoreF [(0, .ref o0), (1, .int v1_8)] rfl (subl_c rfl (subl_c rfl (subl_n))) ?_
      refine s_const rfl ?_
      refine s_istoreF [(0, .ref o0), (1, .int v1_8), (2, .int 0)] rfl (subl_c rfl (subl_c rfl (subl_c rfl (subl_n)))) ?_
      let lvL10 : Int32 → List (Nat × Value) := fun s80 => [(0, .ref o0), (1, .int v1_8), (2, .int s80)]
      refine s_loop lvL10 (subl_c rfl (subl_c rfl (subl_c rfl (subl_n)))) hT5 (fun v2_9 w11 hT11 => ?_)
      show sp _ (PP _ _ _ (47, [(0, .ref o0), (1, .int v1_8), (2, .int v2_9)], [], w11))
      refine s_iload rfl rfl ?_
      refine s_aload rfl rfl ?_
      refine s_getI rfl hT11 ho0 ?_
      refine sp_ite (fun h12 => ?_) (fun h12 => ?_)
      · refine s_ic0 rfl (zc_ge0 h12) ?_
        refine s_aload rfl rfl ?_
        refine s_iload rfl rfl ?_
        refine s_callI [.ref o0, .int v2_9] [] rfl rfl (Nat.le_of_ble_eq_true rfl) (ev_242 (d := d) (by omega) hT11 ho0) (fun r14 w13 hT13 => ?_)
        refine s_aload rfl rfl ?_
        refine s_getF rfl hT13 ho0 rfl ?_
        refine s_const rfl ?_
        refine s_iald rfl hT13 (of_10_6 ho0) ?_
        refine sp_ite (fun h15 => ?_) (fun h15 => ?_)
        · refine s_ic0 rfl (zc_ge0 h15) ?_
          refine s_aload rfl rfl ?_
          refine s_iload rfl rfl ?_
          refine s_const rfl ?_
          refine s_bin rfl rfl ?_
          refine s_callI [.ref o0, .int (v2_9 + 1)] [] rfl rfl (Nat.le_of_ble_eq_true rfl) (ev_242 (d := d) (by omega) hT13 ho0) (fun r17 w16 hT16 => ?_)
          refine s_aload rfl rfl ?_
          refine s_getF rfl hT16 ho0 rfl ?_
          refine s_const rfl ?_
          refine s_iald rfl hT16 (of_10_6 ho0) ?_
          refine sp_ite (fun h18 => ?_) (fun h18 => ?_)
          · refine s_ic0 rfl (zc_ge0 h18) ?_
            refine s_aload rfl rfl ?_
            refine s_iload rfl rfl ?_
            refine s_const rfl ?_
            refine s_bin rfl rfl ?_
            refine s_callI [.ref o0, .int (v2_9 + 3)] [] rfl rfl (Nat.le_of_ble_eq_true rfl) (ev_242 (d := d) (by omega) hT16 ho0) (fun r20 w19 hT19 => ?_)
            refine s_const rfl ?_
            refine s_jnP (fun (s53 : Unit) w => (112, [(0, .ref o0), (1, .int v1_8), (2, .int v2_9)], [], w)) (fun s53 w22 hT22 => ?_) (fun j21 hj21 => ?_)
            · show sp _ (PP _ _ _ (112, [(0, .ref o0), (1, .int v1_8), (2, .int v2_9)], [], w22))
              refine s_const rfl ?_
              refine s_istoreF [(0, .ref o0), (1, .int v1_8), (2, .int v2_9), (3, .int 0)] rfl (subl_c rfl (subl_c rfl (subl_c rfl (subl_c rfl (subl_n))))) ?_
              let lvL24 : Int32 → List (Nat × Value) := fun s48 => [(0, .ref o0), (1, .int v1_8), (2, .int v2_9), (3, .int s48)]
              refine s_loop lvL24 (subl_c rfl (subl_c rfl (subl_c rfl (subl_c rfl (subl_n))))) hT22 (fun v3_23 w25 hT25 => ?_)
              show sp _ (PP _ _ _ (114, [(0, .ref o0), (1, .int v1_8), (2, .int v2_9), (3, .int v3_23)], [], w25))
              refine s_iload rfl rfl ?_
              refine s_const rfl ?_
              refine sp_ite (fun h26 => ?_) (fun h26 => ?_)
              · refine s_ic0 rfl (zc_ge0 h26) ?_
                refine s_const rfl ?_
                refine s_istoreF [(0, .ref o0), (1, .int v1_8), (2, .int v2_9), (3, .int v3_23), (4, .int 0)] rfl (subl_c rfl (subl_c rfl (subl_c rfl (subl_c rfl (subl_c rfl (subl_n)))))) ?_
                refine s_const rfl ?_
                refine s_istoreF [(0, .ref o0), (1, .int v1_8), (2, .int v2_9), (3, .int v3_23), (4, .int 0), (5, .int 0)] rfl (subl_c rfl (subl_c rfl (subl_c rfl (subl_c rfl (subl_c rfl (subl_c rfl (subl_n))))))) ?_
                let lvL29 : Int32 × Int32 → List (Nat × Value) := fun s46 => [(0, .ref o0), (1, .int v1_8), (2, .int v2_9), (3, .int v3_23), (4, .int (s46.1)), (5, .int (s46.2))]
                refine s_loop lvL29 (subl_c rfl (subl_c rfl (subl_c rfl (subl_c rfl (subl_c rfl (subl_c rfl (subl_n))))))) hT25 (fun s46 w30 hT30 => ?_)
                obtain ⟨v4_27, v5_28⟩ := s46
                show sp _ (PP _ _ _ (126, [(0, .ref o0), (1, .int v1_8), (2, .int v2_9), (3, .int v3_23), (4, .int v4_27), (5, .int v5_28)], [], w30))
                refine s_iload rfl rfl ?_
                refine s_aload rfl rfl ?_
                refine s_getF rfl hT30 ho0 rfl ?_
                refine s_const rfl ?_
                refine s_iload rfl rfl ?_
                refine s_bin rfl rfl ?_
                refine s_iald rfl hT30 (of_10_6 ho0) ?_
                refine sp_ite (fun h31 => ?_) (fun h31 => ?_)
                · refine s_ic0 rfl (zc_ge0 h31) ?_
                  refine s_iload rfl rfl ?_
                  refine s_aload rfl rfl ?_
                  refine s_getF rfl hT30 ho0 rfl ?_
                  refine s_const rfl ?_
                  refine s_iald rfl hT30 (of_10_6 ho0) ?_
                  refine sp_ite (fun h32 => ?_) (fun h32 => ?_)
                  · refine s_ic0 rfl (zc_ge0 h32) ?_
                    refine s_iload rfl rfl ?_
                    refine s_aload rfl rfl ?_
                    refine s_getF rfl hT30 ho0 rfl ?_
                    refine s_const rfl ?_
                    refine s_const rfl ?_
                    refine s_iload rfl rfl ?_
                    refine s_bin rfl rfl ?_
                    refine s_bin rfl rfl ?_
                    refine s_iload rfl rfl ?_
                    refine s_bin rfl rfl ?_
                    refine s_iald rfl hT30 (of_10_6 ho0) ?_
                    refine s_const rfl ?_
                    refine s_aload rfl rfl ?_
                    refine s_iload rfl rfl ?_
                    refine s_const rfl ?_
                    refine s_bin rfl rfl ?_
                    refine s_callI [.ref o0, .int (v2_9 + 1)] [.int 12, .int (wI w30 (o0 + 2) (ix ((183 + (41 * v3_23)) + v5_28))), .int v4_27] rfl rfl (Nat.le_of_ble_eq_true rfl) (ev_242 (d := d) (by omega) hT30 ho0) (fun r34 w33 hT33 => ?_)
                    refine s_bin rfl rfl ?_
                    refine s_aload rfl rfl ?_
                    refine s_iload rfl rfl ?_
                    refine s_callI [.ref o0, .int v2_9] [.int (12 * r34), .int (wI w30 (o0 + 2) (ix ((183 + (41 * v3_23)) + v5_28))), .int v4_27] rfl rfl (Nat.le_of_ble_eq_true rfl) (ev_242 (d := d) (by omega) hT33 ho0) (fun r36 w35 hT35 => ?_)
                    refine s_bin rfl rfl ?_
                    refine sp_lt (fun z37 hz37 => ?_)
                    refine s_dia (193, [(0, .ref o0), (1, .int v1_8), (2, .int v2_9), (3, .int v3_23), (4, .int v4_27), (5, .int v5_28)], [.int (bi z37), .int v4_27], w35) ?_ (fun hk40 => ?_)
                    · refine s_bin rfl rfl ?_
                      refine s_nmI (fun v4_38 => ?_)
                      refine s_istoreF [(0, .ref o0), (1, .int v1_8), (2, .int v2_9), (3, .int v3_23), (4, .int v4_38), (5, .int v5_28)] rfl (subl_c rfl (subl_c rfl (subl_c rfl (subl_c rfl (subl_c rfl (subl_c rfl (subl_n))))))) ?_
                      refine s_iincF (fun v5_39 => [(0, .ref o0), (1, .int v1_8), (2, .int v2_9), (3, .int v3_23), (4, .int v4_38), (5, .int v5_39)]) rfl rfl (fun _ => subl_c rfl (subl_c rfl (subl_c rfl (subl_c rfl (subl_c rfl (subl_c rfl (subl_n))))))) (fun v5_39 => ?_)
                      refine s_goto rfl ?_
                      exact s_back (lvL := lvL29) (s' := (v4_38, v5_39)) (subl_c rfl (subl_c rfl (subl_c rfl (subl_c rfl (subl_c rfl (subl_c rfl (subl_n))))))) hT35 (fun _ _ h => h)
                    · by_cases h41 : wI w30 (o0 + 2) (ix ((183 + (41 * v3_23)) + v5_28)) = (12 * r34) + r36
                      · refine s_ic0 rfl (zc_ne0 h41) ?_
                        refine s_const rfl ?_
                        refine s_goto rfl ?_
                        refine s_cong ?_ hk40
                        (rw [hz37, if_pos h41]; rfl)
                      · refine s_ic1 rfl (zc_ne1 h41) ?_
                        refine s_const rfl ?_
                        refine s_cong ?_ hk40
                        (rw [hz37, if_neg h41]; rfl)
                  · refine s_ic1 rfl (zc_ge1 h32) ?_
                    refine s_aload rfl rfl ?_
                    refine s_getF rfl hT30 ho0 rfl ?_
                    refine s_const rfl ?_
                    refine s_iload rfl rfl ?_
                    refine s_const rfl ?_
                    refine s_div rfl (by decide) ?_
                    refine s_bin rfl rfl ?_
                    refine s_iload rfl rfl ?_
                    refine s_bin rfl rfl ?_
                    refine s_iload rfl rfl ?_
                    refine s_iast rfl hT30 (of_10_24 ho0) (fun w42 hT42 => ?_)
                    refine s_iincF (fun v3_43 => [(0, .ref o0), (1, .int v1_8), (2, .int v2_9), (3, .int v3_43)]) rfl rfl (fun _ => subl_c rfl (subl_c rfl (subl_c rfl (subl_c rfl (subl_n))))) (fun v3_43 => ?_)
                    refine s_goto rfl ?_
                    exact s_back (lvL := lvL24) (s' := v3_43) (subl_c rfl (subl_c rfl (subl_c rfl (subl_c rfl (subl_n))))) hT42 (fun _ _ h => h)
                · refine s_ic1 rfl (zc_ge1 h31) ?_
                  refine s_aload rfl rfl ?_
                  refine s_getF rfl hT30 ho0 rfl ?_
                  refine s_const rfl ?_
                  refine s_iload rfl rfl ?_
                  refine s_const rfl ?_
                  refine s_div rfl (by decide) ?_
                  refine s_bin rfl rfl ?_
                  refine s_iload rfl rfl ?_
                  refine s_bin rfl rfl ?_
                  refine s_iload rfl rfl ?_
                  refine s_iast rfl hT30 (of_10_24 ho0) (fun w44 hT44 => ?_)
                  refine s_iincF (fun v3_45 => [(0, .ref o0), (1, .int v1_8), (2, .int v2_9), (3, .int v3_45)]) rfl rfl (fun _ => subl_c rfl (subl_c rfl (subl_c rfl (subl_c rfl (subl_n))))) (fun v3_45 => ?_)
                  refine s_goto rfl ?_
                  exact s_back (lvL := lvL24) (s' := v3_45) (subl_c rfl (subl_c rfl (subl_c rfl (subl_c rfl (subl_n))))) hT44 (fun _ _ h => h)
              · refine s_ic1 rfl (zc_ge1 h26) ?_
                refine s_iincF (fun v2_47 => [(0, .ref o0), (1, .int v1_8), (2, .int v2_47)]) rfl rfl (fun _ => subl_c rfl (subl_c rfl (subl_c rfl (subl_n)))) (fun v2_47 => ?_)
                refine s_goto rfl ?_
                exact s_back (lvL := lvL10) (s' := v2_47) (subl_c rfl (subl_c rfl (subl_c rfl (subl_n)))) hT25 (fun _ _ h => h)
            · refine sp_ite (fun h49 => ?_) (fun h49 => ?_)
              · refine s_ic0 rfl (zc_le0 h49) ?_
                refine s_aload rfl rfl ?_
                refine s_iload rfl rfl ?_
                refine s_const rfl ?_
                refine s_bin rfl rfl ?_
                refine s_callI [.ref o0, .int (v2_9 + 3)] [] rfl rfl (Nat.le_of_ble_eq_true rfl) (ev_242 (d := d) (by omega) hT19 ho0) (fun r51 w50 hT50 => ?_)
                refine s_const rfl ?_
                refine sp_ite (fun h52 => ?_) (fun h52 => ?_)
                · refine s_ic1 rfl (zc_eq1 h52) ?_
                  exact s_fgt _ (subl_c rfl (subl_c rfl (subl_c rfl (subl_n)))) (hj21 () w50 hT50)
                · refine s_ic0 rfl (zc_eq0 h52) ?_
                  refine s_const rfl ?_
                  exact s_retI rfl rfl hT50 (fun _ _ h => h)
              · refine s_ic1 rfl (zc_le1 h49) ?_
                exact s_fgt _ (subl_c rfl (subl_c rfl (subl_c rfl (subl_n)))) (hj21 () w19 hT19)
          · refine s_ic1 rfl (zc_ge1 h18) ?_
            refine s_const rfl ?_
            exact s_retI rfl rfl hT16 (fun _ _ h => h)
        · refine s_ic1 rfl (zc_ge1 h15) ?_
          refine s_const rfl ?_
          exact s_retI rfl rfl hT13 (fun _ _ h => h)
      · refine s_ic1 rfl (zc_ge1 h12) ?_
        refine s_const rfl ?_
        refine s_istoreF [(0, .ref o0), (1, .int v1_8), (2, .int 0)] rfl (subl_c rfl (subl_c rfl (subl_c rfl (subl_n)))) ?_
        let lvL55 : Int32 → List (Nat × Value) := fun s79 => [(0, .ref o0), (1, .int v1_8), (2, .int s79)]
        refine s_loop lvL55 (subl_c rfl (subl_c rfl (subl_c rfl (subl_n)))) hT11 (fun v2_54 w56 hT56 => ?_)
        show sp _ (PP _ _ _ (231, [(0, .ref o0), (1, .int v1_8), (2, .int v2_54)], [], w56))
        refine s_iload rfl rfl ?_
        refine s_const rfl ?_
        refine sp_ite (fun h57 => ?_) (fun h57 => ?_)
        · refine s_ic0 rfl (zc_ge0 h57) ?_
          refine s_aload rfl rfl ?_
          refine s_getF rfl hT56 ho0 rfl ?_
          refine s_iload rfl rfl ?_
          refine s_const rfl ?_
          refine s_iast rfl hT56 (of_10_25 ho0) (fun w58 hT58 => ?_)
          refine s_iincF (fun v2_59 => [(0, .ref o0), (1, .int v1_8), (2, .int v2_59)]) rfl rfl (fun _ => subl_c rfl (subl_c rfl (subl_c rfl (subl_n)))) (fun v2_59 => ?_)
          refine s_goto rfl ?_
          exact s_back (lvL := lvL55) (s' := v2_59) (subl_c rfl (subl_c rfl (subl_c rfl (subl_n)))) hT58 (fun _ _ h => h)
        · refine s_ic1 rfl (zc_ge1 h57) ?_
          refine s_const rfl ?_
          refine s_istoreF [(0, .ref o0), (1, .int v1_8), (2, .int 0)] rfl (subl_c rfl (subl_c rfl (subl_c rfl (subl_n)))) ?_
          refine s_const rfl ?_
          refine s_istoreF [(0, .ref o0), (1, .int v1_8), (2, .int 0), (3, .int 1)] rfl (subl_c rfl (subl_c rfl (subl_c rfl (subl_c rfl (subl_n))))) ?_
          let lvL62 : Int32 × Int32 → List (Nat × Value) := fun s78 => [(0, .ref o0), (1, .int v1_8), (2, .int (s78.1)), (3, .int (s78.2))]
          refine s_loop lvL62 (subl_c rfl (subl_c rfl (subl_c rfl (subl_c rfl (subl_n))))) hT56 (fun s78 w63 hT63 => ?_)
          obtain ⟨v2_60, v3_61⟩ := s78
          show sp _ (PP _ _ _ (254, [(0, .ref o0), (1, .int v1_8), (2, .int v2_60), (3, .int v3_61)], [], w63))
          refine s_iload rfl rfl ?_
          refine sp_ite (fun h64 => ?_) (fun h64 => ?_)
          · refine s_if1 rfl (zc_eq1 h64) ?_
            refine s_iload rfl rfl ?_
            exact s_retI rfl rfl hT63 (fun _ _ h => h)
          · refine s_if0 rfl (zc_eq0 h64) ?_
            refine s_aload rfl rfl ?_
            refine s_iload rfl rfl ?_
            refine s_callZ [.ref o0, .int v1_8] [] rfl rfl (Nat.le_of_ble_eq_true rfl) (ev_243 (d := d) (by omega) hT63 ho0) (fun r66 w65 hT65 => ?_)
            refine sp_ite (fun h67 => ?_) (fun h67 => ?_)
            · refine s_if0 rfl (zb_eq0 h67) ?_
              refine s_iincF (fun v2_68 => [(0, .ref o0), (1, .int v1_8), (2, .int v2_68)]) rfl rfl (fun _ => subl_c rfl (subl_c rfl (subl_c rfl (subl_n)))) (fun v2_68 => ?_)
              refine s_aload rfl rfl ?_
              refine s_iload rfl rfl ?_
              refine s_const rfl ?_
              refine sp_lt (fun z69 hz69 => ?_)
              refine s_dia (280, [(0, .ref o0), (1, .int v1_8), (2, .int v2_68)], [.int (bi z69), .ref o0], w65) ?_ (fun hk74 => ?_)
              · refine s_callV [.ref o0, .int (bi z69)] [] rfl rfl (Nat.le_of_ble_eq_true rfl) (ev_244 (d := d) (by omega) hT65 ho0) (fun _ w70 hT70 => ?_)
                refine s_aload rfl rfl ?_
                refine s_callZ [.ref o0] [] rfl rfl (Nat.le_of_ble_eq_true rfl) (ev_245 (d := d) (by omega) hT70 ho0) (fun r73 w72 hT72 => ?_)
                refine s_istoreF [(0, .ref o0), (1, .int v1_8), (2, .int v2_68), (3, .int (bi r73))] rfl (subl_c rfl (subl_c rfl (subl_c rfl (subl_c rfl (subl_n))))) ?_
                refine s_goto rfl ?_
                exact s_back (lvL := lvL62) (s' := (v2_68, bi r73)) (subl_c rfl (subl_c rfl (subl_c rfl (subl_c rfl (subl_n))))) hT72 (fun _ _ h => h)
              · by_cases h75 : v2_68 = 1
                · refine s_ic0 rfl (zc_ne0 h75) ?_
                  refine s_const rfl ?_
                  refine s_goto rfl ?_
                  refine s_cong ?_ hk74
                  (rw [hz69, if_pos h75]; rfl)
                · refine s_ic1 rfl (zc_ne1 h75) ?_
                  refine s_const rfl ?_
                  refine s_cong ?_ hk74
                  (rw [hz69, if_neg h75]; rfl)
            · refine s_if1 rfl (zb_eq1 h67) ?_
              refine s_aload rfl rfl ?_
              refine s_callZ [.ref o0] [] rfl rfl (Nat.le_of_ble_eq_true rfl) (ev_245 (d := d) (by omega) hT65 ho0) (fun r77 w76 hT76 => ?_)
              refine s_istoreF [(0, .ref o0), (1, .int v1_8), (2, .int v2_60), (3, .int (bi r77))] rfl (subl_c rfl (subl_c rfl (subl_c rfl (subl_c rfl (subl_n))))) ?_
              refine s_goto rfl ?_
              exact s_back (lvL := lvL62) (s' := (v2_60, bi r77)) (subl_c rfl (subl_c rfl (subl_c rfl (subl_c rfl (subl_n))))) hT76 (fun _ _ h => h)
    · refine s_if0 rfl (zb_ne0 h7) ?_
      refine s_const rfl ?_
      exact s_retI rfl rfl hT5 (fun _ _ h => h)
  · refine s_if1 rfl (zc_ne1 h4) ?_
    refine s_const rfl ?_
    exact s_retI rfl rfl hT2 (fun _ _ h => h)
/-- RugReaderModel.read(II)I -/
def sh_246 (o0 : Nat) (p1 : Int32) (p2 : Int32) (w : Wd) : Option (Int32 × Wd) := stI w o0 0 0 (fun w1 => cl (sh_199 p1 0 ((wI w1 o0 28) - 1) w1) (fun r3 w2 => if r3 = true then (cl (sh_199 p2 0 1 w2) (fun r6 w5 => if r6 = true then (if p2 = 0 then (gd (ib p1 6) (some (wI w5 (o0 + 10) (ix p1), w5))) else (gd (ib p1 6) (some (wI w5 (o0 + 11) (ix p1), w5)))) else (some ((-3), w5)))) else (some ((-3), w2))))
set_option maxRecDepth 20000 in
set_option maxHeartbeats 4000000 in
theorem ev_246 {d : Nat} (hd : 2 ≤ d) {o0 : Nat} {p1 : Int32} {p2 : Int32} {w : Wd} (hT : TY w) (ho0 : ist o0 10) : sp (sh_246 o0 p1 p2 w) (fun r w' => TY w' ∧ Ev d 246 [.ref o0, .int p1, .int p2] w (cvI r) w') := by
  obtain ⟨d, rfl⟩ : ∃ d', d = d' + 1 := ⟨d - 1, by omega⟩
  refine ev_of (M := M246) zin_246 rfl (by decide) rfl (Nat.le_of_ble_eq_true rfl) (Or.inr ⟨o0, _, rfl, ho0⟩) hT ?_
  show sp _ (PP (Ev d) M246 (KR cvI) (0, [(0, .ref o0), (1, .int p1), (2, .int p2)], [], w))
  unfold sh_246
  refine s_aload rfl rfl ?_
  refine s_const rfl ?_
  refine s_putI rfl hT ho0 rfl (fun w1 hT1 => ?_)
  refine s_iload rfl rfl ?_
  refine s_const rfl ?_
  refine s_aload rfl rfl ?_
  refine s_getI rfl hT1 ho0 ?_
  refine s_const rfl ?_
  refine s_bin rfl rfl ?_
  refine s_callZ [.int p1, .int 0, .int ((wI w1 o0 28) - 1)] [] rfl rfl (Nat.le_of_ble_eq_true rfl) (ev_199 (d := d) (by omega) hT1 ) (fun r3 w2 hT2 => ?_)
  refine sp_ite (fun h4 => ?_) (fun h4 => ?_)
  · refine s_if0 rfl (zb_eq0 h4) ?_
    refine s_iload rfl rfl ?_
    refine s_const rfl ?_
    refine s_const rfl ?_
    refine s_callZ [.int p2, .int 0, .int 1] [] rfl rfl (Nat.le_of_ble_eq_true rfl) (ev_199 (d := d) (by omega) hT2 ) (fun r6 w5 hT5 => ?_)
    refine sp_ite (fun h7 => ?_) (fun h7 => ?_)
    · refine s_if0 rfl (zb_eq0 h7) ?_
      refine s_iload rfl rfl ?_
      refine sp_ite (fun h8 => ?_) (fun h8 => ?_)
      · refine s_if0 rfl (zc_ne0 h8) ?_
        refine s_aload rfl rfl ?_
        refine s_getF rfl hT5 ho0 rfl ?_
        refine s_iload rfl rfl ?_
        refine s_iald rfl hT5 (of_10_26 ho0) ?_
        refine s_goto rfl ?_
        exact s_retI rfl rfl hT5 (fun _ _ h => h)
      · refine s_if1 rfl (zc_ne1 h8) ?_
        refine s_aload rfl rfl ?_
        refine s_getF rfl hT5 ho0 rfl ?_
        refine s_iload rfl rfl ?_
        refine s_iald rfl hT5 (of_10_27 ho0) ?_
        refine s_goto rfl ?_
        exact s_retI rfl rfl hT5 (fun _ _ h => h)
    · refine s_if1 rfl (zb_eq1 h7) ?_
      refine s_const rfl ?_
      exact s_retI rfl rfl hT5 (fun _ _ h => h)
  · refine s_if1 rfl (zb_eq1 h4) ?_
    refine s_const rfl ?_
    exact s_retI rfl rfl hT2 (fun _ _ h => h)
/-- RugReaderModel.fewest()I -/
def sh_247 (o0 : Nat) (w : Wd) : Option (Int32 × Wd) := stI w o0 0 0 (fun w1 => lt (if 0 ≤ wI w1 o0 28 then (wI w1 o0 29) else (-1) : Int32) (fun z2 => some (z2, w1)))
set_option maxRecDepth 20000 in
set_option maxHeartbeats 4000000 in
theorem ev_247 {d : Nat} (hd : 1 ≤ d) {o0 : Nat} {w : Wd} (hT : TY w) (ho0 : ist o0 10) : sp (sh_247 o0 w) (fun r w' => TY w' ∧ Ev d 247 [.ref o0] w (cvI r) w') := by
  obtain ⟨d, rfl⟩ : ∃ d', d = d' + 1 := ⟨d - 1, by omega⟩
  refine ev_of (M := M247) zin_247 rfl (by decide) rfl (Nat.le_of_ble_eq_true rfl) (Or.inr ⟨o0, _, rfl, ho0⟩) hT ?_
  show sp _ (PP (Ev d) M247 (KR cvI) (0, [(0, .ref o0)], [], w))
  unfold sh_247
  refine s_aload rfl rfl ?_
  refine s_const rfl ?_
  refine s_putI rfl hT ho0 rfl (fun w1 hT1 => ?_)
  refine s_aload rfl rfl ?_
  refine s_getI rfl hT1 ho0 ?_
  refine sp_lt (fun z2 hz2 => ?_)
  refine s_dia (20, [(0, .ref o0)], [.int z2], w1) ?_ (fun hk3 => ?_)
  · exact s_retI rfl rfl hT1 (fun _ _ h => h)
  · by_cases h4 : 0 ≤ wI w1 o0 28
    · refine s_if0 rfl (zc_lt0 h4) ?_
      refine s_aload rfl rfl ?_
      refine s_getI rfl hT1 ho0 ?_
      refine s_goto rfl ?_
      refine s_cong ?_ hk3
      (rw [hz2, if_pos h4])
    · refine s_if1 rfl (zc_lt1 h4) ?_
      refine s_const rfl ?_
      refine s_cong ?_ hk3
      (rw [hz2, if_neg h4])
/-- RugReaderModel.signOf(II)I -/
def sh_250 (o0 : Nat) (p1 : Int32) (p2 : Int32) (w : Wd) : Option (Int32 × Wd) := gd (ib (436 + (4 * p2)) 10265) (if 0 < wI w (o0 + 2) (ix (436 + (4 * p2))) then (gd (ib ((436 + (4 * p2)) + 1) 10265) (gd (ib (13 + p1) 10265) (if wI w (o0 + 2) (ix ((436 + (4 * p2)) + 1)) = wI w (o0 + 2) (ix (13 + p1)) then (some (0, w)) else (gd (ib (7 + p1) 10265) (some (wI w (o0 + 2) (ix (7 + p1)), w)))))) else (gd (ib (7 + p1) 10265) (some (wI w (o0 + 2) (ix (7 + p1)), w))))
set_option maxRecDepth 20000 in
set_option maxHeartbeats 4000000 in
theorem ev_250 {d : Nat} (hd : 1 ≤ d) {o0 : Nat} {p1 : Int32} {p2 : Int32} {w : Wd} (hT : TY w) (ho0 : ist o0 10) : sp (sh_250 o0 p1 p2 w) (fun r w' => TY w' ∧ Ev d 250 [.ref o0, .int p1, .int p2] w (cvI r) w') := by
  obtain ⟨d, rfl⟩ : ∃ d', d = d' + 1 := ⟨d - 1, by omega⟩
  refine ev_of (M := M250) zin_250 rfl (by decide) rfl (Nat.le_of_ble_eq_true rfl) (Or.inr ⟨o0, _, rfl, ho0⟩) hT ?_
  show sp _ (PP (Ev d) M250 (KR cvI) (0, [(0, .ref o0), (1, .int p1), (2, .int p2)], [], w))
  unfold sh_250
  refine s_aload rfl rfl ?_
  refine s_getF rfl hT ho0 rfl ?_
  refine s_const rfl ?_
  refine s_const rfl ?_
  refine s_iload rfl rfl ?_
  refine s_bin rfl rfl ?_
  refine s_bin rfl rfl ?_
  refine s_iald rfl hT (of_10_6 ho0) ?_
  refine sp_ite (fun h1 => ?_) (fun h1 => ?_)
  · refine s_if0 rfl (zc_le0 h1) ?_
    refine s_aload rfl rfl ?_
    refine s_getF rfl hT ho0 rfl ?_
    refine s_const rfl ?_
    refine s_const rfl ?_
    refine s_iload rfl rfl ?_
    refine s_bin rfl rfl ?_
    refine s_bin rfl rfl ?_
    refine s_const rfl ?_
    refine s_bin rfl rfl ?_
    refine s_iald rfl hT (of_10_6 ho0) ?_
    refine s_aload rfl rfl ?_
    refine s_getF rfl hT ho0 rfl ?_
    refine s_const rfl ?_
    refine s_iload rfl rfl ?_
    refine s_bin rfl rfl ?_
    refine s_iald rfl hT (of_10_6 ho0) ?_
    refine sp_ite (fun h2 => ?_) (fun h2 => ?_)
    · refine s_ic0 rfl (zc_ne0 h2) ?_
      refine s_const rfl ?_
      refine s_goto rfl ?_
      exact s_retI rfl rfl hT (fun _ _ h => h)
    · refine s_ic1 rfl (zc_ne1 h2) ?_
      refine s_aload rfl rfl ?_
      refine s_getF rfl hT ho0 rfl ?_
      refine s_const rfl ?_
      refine s_iload rfl rfl ?_
      refine s_bin rfl rfl ?_
      refine s_iald rfl hT (of_10_6 ho0) ?_
      exact s_retI rfl rfl hT (fun _ _ h => h)
  · refine s_if1 rfl (zc_le1 h1) ?_
    refine s_aload rfl rfl ?_
    refine s_getF rfl hT ho0 rfl ?_
    refine s_const rfl ?_
    refine s_iload rfl rfl ?_
    refine s_bin rfl rfl ?_
    refine s_iald rfl hT (of_10_6 ho0) ?_
    exact s_retI rfl rfl hT (fun _ _ h => h)
/-- RugReaderModel.beside(II)I -/
def sh_251 (o0 : Nat) (p1 : Int32) (p2 : Int32) (w : Wd) : Option (Int32 × Wd) := gd (ib 0 10265) (gd (ib 1 10265) (cl (sh_207 p1 p2 (wI w (o0 + 2) (ix 0)) (wI w (o0 + 2) (ix 1)) w) (fun r2 w1 => some (r2, w1))))
set_option maxRecDepth 20000 in
set_option maxHeartbeats 4000000 in
theorem ev_251 {d : Nat} (hd : 3 ≤ d) {o0 : Nat} {p1 : Int32} {p2 : Int32} {w : Wd} (hT : TY w) (ho0 : ist o0 10) : sp (sh_251 o0 p1 p2 w) (fun r w' => TY w' ∧ Ev d 251 [.ref o0, .int p1, .int p2] w (cvI r) w') := by
  obtain ⟨d, rfl⟩ : ∃ d', d = d' + 1 := ⟨d - 1, by omega⟩
  refine ev_of (M := M251) zin_251 rfl (by decide) rfl (Nat.le_of_ble_eq_true rfl) (Or.inr ⟨o0, _, rfl, ho0⟩) hT ?_
  show sp _ (PP (Ev d) M251 (KR cvI) (0, [(0, .ref o0), (1, .int p1), (2, .int p2)], [], w))
  unfold sh_251
  refine s_iload rfl rfl ?_
  refine s_iload rfl rfl ?_
  refine s_aload rfl rfl ?_
  refine s_getF rfl hT ho0 rfl ?_
  refine s_const rfl ?_
  refine s_iald rfl hT (of_10_6 ho0) ?_
  refine s_aload rfl rfl ?_
  refine s_getF rfl hT ho0 rfl ?_
  refine s_const rfl ?_
  refine s_iald rfl hT (of_10_6 ho0) ?_
  refine s_callI [.int p1, .int p2, .int (wI w (o0 + 2) (ix 0)), .int (wI w (o0 + 2) (ix 1))] [] rfl rfl (Nat.le_of_ble_eq_true rfl) (ev_207 (d := d) (by omega) hT ) (fun r2 w1 hT1 => ?_)
  exact s_retI rfl rfl hT1 (fun _ _ h => h)
/-- RugReaderModel.crosses(III)I -/
def sh_249 (o0 : Nat) (p1 : Int32) (p2 : Int32) (p3 : Int32) (w : Wd) : Option (Int32 × Wd) := cl (sh_211 o0 p1 w) (fun r2 w1 => if r2 = true then (cl (sh_216 o0 p2 w1) (fun r5 w4 => if r5 = true then (cl (sh_216 o0 p3 w4) (fun r8 w7 => if r8 = true then (gd (ib (25 + p2) 10265) (if wI w7 (o0 + 2) (ix (25 + p2)) = 1 then (some ((-1), w7)) else (gd (ib (25 + p3) 10265) (if wI w7 (o0 + 2) (ix (25 + p3)) = 1 then (some ((-1), w7)) else (itM (fun (v4_12 : Int32) (w14 : Wd) => if v4_12 < 144 then (gd (ib v4_12 144) (stI w14 (o0 + 12) (ix v4_12) 1000000000 (fun w16 => lt (v4_12 + 1 : Int32) (fun v4_17 => some (.inl v4_17, w16))))) else (cl (sh_250 o0 p1 p2 w14) (fun r19 w18 => gd (ib p2 144) (stI w18 (o0 + 12) (ix p2) (1000 * r19) (fun w20 => itM (fun (v4_21 : Int32) (w23 : Wd) => if v4_21 = 0 then (gd (ib p3 144) (if wI w23 (o0 + 12) (ix p3) < 1000000000 then (gd (ib p3 144) (some (.inr (.inr (wI w23 (o0 + 12) (ix p3))), w23))) else (some (.inr (.inr ((-1))), w23)))) else (itM (fun (s53 : Int32 × Int32) (w29 : Wd) => match s53 with | (v4_26, v5_27) => if v5_27 < 144 then (itM (fun (s52 : Int32 × Int32) (w34 : Wd) => match s52 with | (v4_31, v6_32) => if v6_32 < 4 then (gd (ib v5_27 144) (if wI w34 (o0 + 12) (ix v5_27) < 1000000000 then (cl (sh_251 o0 v5_27 v6_32 w34) (fun r38 w37 => if 0 ≤ r38 then (gd (ib (25 + r38) 10265) (if wI w37 (o0 + 2) (ix (25 + r38)) = 1 then (lt (v6_32 + 1 : Int32) (fun v6_41 => some (.inl (v4_31, v6_41), w37))) else (gd (ib v5_27 144) (cl (sh_250 o0 p1 r38 w37) (fun r43 w42 => lt (((wI w37 (o0 + 12) (ix v5_27)) + (1000 * r43)) + 1 : Int32) (fun v8_44 => gd (ib r38 144) (if wI w42 (o0 + 12) (ix r38) ≤ v8_44 then (lt (v6_32 + 1 : Int32) (fun v6_46 => some (.inl (v4_31, v6_46), w42))) else (gd (ib r38 144) (stI w42 (o0 + 12) (ix r38) v8_44 (fun w47 => lt (v6_32 + 1 : Int32) (fun v6_48 => some (.inl (1, v6_48), w47)))))))))))) else (lt (v6_32 + 1 : Int32) (fun v6_49 => some (.inl (v4_31, v6_49), w37))))) else (lt (v5_27 + 1 : Int32) (fun v5_50 => some (.inr (.inl (v4_31, v5_50)), w34))))) else (lt (v5_27 + 1 : Int32) (fun v5_51 => some (.inr (.inl (v4_31, v5_51)), w34)))) FU (v4_26, 0) w29) else (some (.inr (.inl v4_26), w29))) FU (0, 0) w23)) FU 1 w20))))) FU 0 w7))))) else (some ((-1), w7)))) else (some ((-1), w4)))) else (some ((-1), w1)))
set_option maxRecDepth 20000 in
set_option maxHeartbeats 4000000 in
theorem ev_249 {d : Nat} (hd : 4 ≤ d) {o0 : Nat} {p1 : Int32} {p2 : Int32} {p3 : Int32} {w : Wd} (hT : TY w) (ho0 : ist o0 10) : sp (sh_249 o0 p1 p2 p3 w) (fun r w' => TY w' ∧ Ev d 249 [.ref o0, .int p1, .int p2, .int p3] w (cvI r) w') := by
  obtain ⟨d, rfl⟩ : ∃ d', d = d' + 1 := ⟨d - 1, by omega⟩
  refine ev_of (M := M249) zin_249 rfl (by decide) rfl (Nat.le_of_ble_eq_true rfl) (Or.inr ⟨o0, _, rfl, ho0⟩) hT ?_
  show sp _ (PP (Ev d) M249 (KR cvI) (0, [(0, .ref o0), (1, .int p1), (2, .int p2), (3, .int p3)], [], w))
  unfold sh_249
  refine s_aload rfl rfl ?_
  refine s_iload rfl rfl ?_
  refine s_callZ [.ref o0, .int p1] [] rfl rfl (Nat.le_of_ble_eq_true rfl) (ev_211 (d := d) (by omega) hT ho0) (fun r2 w1 hT1 => ?_)
  refine sp_ite (fun h3 => ?_) (fun h3 => ?_)
  · refine s_if0 rfl (zb_eq0 h3) ?_
    refine s_aload rfl rfl ?_
    refine s_iload rfl rfl ?_
    refine s_callZ [.ref o0, .int p2] [] rfl rfl (Nat.le_of_ble_eq_true rfl) (ev_216 (d := d) (by omega) hT1 ho0) (fun r5 w4 hT4 => ?_)
    refine sp_ite (fun h6 => ?_) (fun h6 => ?_)
    · refine s_if0 rfl (zb_eq0 h6) ?_
      refine s_aload rfl rfl ?_
      refine s_iload rfl rfl ?_
      refine s_callZ [.ref o0, .int p3] [] rfl rfl (Nat.le_of_ble_eq_true rfl) (ev_216 (d := d) (by omega) hT4 ho0) (fun r8 w7 hT7 => ?_)
      refine sp_ite (fun h9 => ?_) (fun h9 => ?_)
      · refine s_if0 rfl (zb_eq0 h9) ?_
        refine s_aload rfl rfl ?_
        refine s_getF rfl hT7 ho0 rfl ?_
        refine s_const rfl ?_
        refine s_iload rfl rfl ?_
        refine s_bin rfl rfl ?_
        refine s_iald rfl hT7 (of_10_6 ho0) ?_
        refine s_const rfl ?_
        refine sp_ite (fun h10 => ?_) (fun h10 => ?_)
        · refine s_ic1 rfl (zc_eq1 h10) ?_
          refine s_const rfl ?_
          exact s_retI rfl rfl hT7 (fun _ _ h => h)
        · refine s_ic0 rfl (zc_eq0 h10) ?_
          refine s_aload rfl rfl ?_
          refine s_getF rfl hT7 ho0 rfl ?_
          refine s_const rfl ?_
          refine s_iload rfl rfl ?_
          refine s_bin rfl rfl ?_
          refine s_iald rfl hT7 (of_10_6 ho0) ?_
          refine s_const rfl ?_
          refine sp_ite (fun h11 => ?_) (fun h11 => ?_)
          · refine s_ic0 rfl (zc_ne0 h11) ?_
            refine s_const rfl ?_
            exact s_retI rfl rfl hT7 (fun _ _ h => h)
          · refine s_ic1 rfl (zc_ne1 h11) ?_
            refine s_const rfl ?_
            refine s_istoreF [(0, .ref o0), (1, .int p1), (2, .int p2), (3, .int p3), (4, .int 0)] rfl (subl_c rfl (subl_c rfl (subl_c rfl (subl_c rfl (subl_c rfl (subl_n)))))) ?_
            let lvL13 : Int32 → List (Nat × Value) := fun s55 => [(0, .ref o0), (1, .int p1), (2, .int p2), (3, .int p3), (4, .int s55)]
            refine s_loop lvL13 (subl_c rfl (subl_c rfl (subl_c rfl (subl_c rfl (subl_c rfl (subl_n)))))) hT7 (fun v4_12 w14 hT14 => ?_)
            show sp _ (PP _ _ _ (55, [(0, .ref o0), (1, .int p1), (2, .int p2), (3, .int p3), (4, .int v4_12)], [], w14))
            refine s_iload rfl rfl ?_
            refine s_const rfl ?_
            refine sp_ite (fun h15 => ?_) (fun h15 => ?_)
            · refine s_ic0 rfl (zc_ge0 h15) ?_
              refine s_aload rfl rfl ?_
              refine s_getF rfl hT14 ho0 rfl ?_
              refine s_iload rfl rfl ?_
              refine s_const rfl ?_
              refine s_iast rfl hT14 (of_10_30 ho0) (fun w16 hT16 => ?_)
              refine s_iincF (fun v4_17 => [(0, .ref o0), (1, .int p1), (2, .int p2), (3, .int p3), (4, .int v4_17)]) rfl rfl (fun _ => subl_c rfl (subl_c rfl (subl_c rfl (subl_c rfl (subl_c rfl (subl_n)))))) (fun v4_17 => ?_)
              refine s_goto rfl ?_
              exact s_back (lvL := lvL13) (s' := v4_17) (subl_c rfl (subl_c rfl (subl_c rfl (subl_c rfl (subl_c rfl (subl_n)))))) hT16 (fun _ _ h => h)
            · refine s_ic1 rfl (zc_ge1 h15) ?_
              refine s_aload rfl rfl ?_
              refine s_getF rfl hT14 ho0 rfl ?_
              refine s_iload rfl rfl ?_
              refine s_const rfl ?_
              refine s_aload rfl rfl ?_
              refine s_iload rfl rfl ?_
              refine s_iload rfl rfl ?_
              refine s_callI [.ref o0, .int p1, .int p2] [.int 1000, .int p2, .ref (o0 + 12)] rfl rfl (Nat.le_of_ble_eq_true rfl) (ev_250 (d := d) (by omega) hT14 ho0) (fun r19 w18 hT18 => ?_)
              refine s_bin rfl rfl ?_
              refine s_iast rfl hT18 (of_10_30 ho0) (fun w20 hT20 => ?_)
              refine s_const rfl ?_
              refine s_istoreF [(0, .ref o0), (1, .int p1), (3, .int p3), (4, .int 1)] rfl (subl_c rfl (subl_c rfl (subl_c rfl (subl_c rfl (subl_n))))) ?_
              let lvL22 : Int32 → List (Nat × Value) := fun s54 => [(0, .ref o0), (1, .int p1), (3, .int p3), (4, .int s54)]
              refine s_loop lvL22 (subl_c rfl (subl_c rfl (subl_c rfl (subl_c rfl (subl_n))))) hT20 (fun v4_21 w23 hT23 => ?_)
              show sp _ (PP _ _ _ (98, [(0, .ref o0), (1, .int p1), (3, .int p3), (4, .int v4_21)], [], w23))
              refine s_iload rfl rfl ?_
              refine sp_ite (fun h24 => ?_) (fun h24 => ?_)
              · refine s_if1 rfl (zc_eq1 h24) ?_
                refine s_aload rfl rfl ?_
                refine s_getF rfl hT23 ho0 rfl ?_
                refine s_iload rfl rfl ?_
                refine s_iald rfl hT23 (of_10_30 ho0) ?_
                refine s_const rfl ?_
                refine sp_ite (fun h25 => ?_) (fun h25 => ?_)
                · refine s_ic0 rfl (zc_ge0 h25) ?_
                  refine s_aload rfl rfl ?_
                  refine s_getF rfl hT23 ho0 rfl ?_
                  refine s_iload rfl rfl ?_
                  refine s_iald rfl hT23 (of_10_30 ho0) ?_
                  refine s_goto rfl ?_
                  exact s_retI rfl rfl hT23 (fun _ _ h => h)
                · refine s_ic1 rfl (zc_ge1 h25) ?_
                  refine s_const rfl ?_
                  exact s_retI rfl rfl hT23 (fun _ _ h => h)
              · refine s_if0 rfl (zc_eq0 h24) ?_
                refine s_const rfl ?_
                refine s_istoreF [(0, .ref o0), (1, .int p1), (3, .int p3), (4, .int 0)] rfl (subl_c rfl (subl_c rfl (subl_c rfl (subl_c rfl (subl_n))))) ?_
                refine s_const rfl ?_
                refine s_istoreF [(0, .ref o0), (1, .int p1), (3, .int p3), (4, .int 0), (5, .int 0)] rfl (subl_c rfl (subl_c rfl (subl_c rfl (subl_c rfl (subl_c rfl (subl_n)))))) ?_
                let lvL28 : Int32 × Int32 → List (Nat × Value) := fun s53 => [(0, .ref o0), (1, .int p1), (3, .int p3), (4, .int (s53.1)), (5, .int (s53.2))]
                refine s_loop lvL28 (subl_c rfl (subl_c rfl (subl_c rfl (subl_c rfl (subl_c rfl (subl_n)))))) hT23 (fun s53 w29 hT29 => ?_)
                obtain ⟨v4_26, v5_27⟩ := s53
                show sp _ (PP _ _ _ (109, [(0, .ref o0), (1, .int p1), (3, .int p3), (4, .int v4_26), (5, .int v5_27)], [], w29))
                refine s_iload rfl rfl ?_
                refine s_const rfl ?_
                refine sp_ite (fun h30 => ?_) (fun h30 => ?_)
                · refine s_ic0 rfl (zc_ge0 h30) ?_
                  refine s_const rfl ?_
                  refine s_istoreF [(0, .ref o0), (1, .int p1), (3, .int p3), (4, .int v4_26), (5, .int v5_27), (6, .int 0)] rfl (subl_c rfl (subl_c rfl (subl_c rfl (subl_c rfl (subl_c rfl (subl_c rfl (subl_n))))))) ?_
                  let lvL33 : Int32 × Int32 → List (Nat × Value) := fun s52 => [(0, .ref o0), (1, .int p1), (3, .int p3), (4, .int (s52.1)), (5, .int v5_27), (6, .int (s52.2))]
                  refine s_loop lvL33 (subl_c rfl (subl_c rfl (subl_c rfl (subl_c rfl (subl_c rfl (subl_c rfl (subl_n))))))) hT29 (fun s52 w34 hT34 => ?_)
                  obtain ⟨v4_31, v6_32⟩ := s52
                  show sp _ (PP _ _ _ (120, [(0, .ref o0), (1, .int p1), (3, .int p3), (4, .int v4_31), (5, .int v5_27), (6, .int v6_32)], [], w34))
                  refine s_iload rfl rfl ?_
                  refine s_const rfl ?_
                  refine sp_ite (fun h35 => ?_) (fun h35 => ?_)
                  · refine s_ic0 rfl (zc_ge0 h35) ?_
                    refine s_aload rfl rfl ?_
                    refine s_getF rfl hT34 ho0 rfl ?_
                    refine s_iload rfl rfl ?_
                    refine s_iald rfl hT34 (of_10_30 ho0) ?_
                    refine s_const rfl ?_
                    refine sp_ite (fun h36 => ?_) (fun h36 => ?_)
                    · refine s_ic0 rfl (zc_ge0 h36) ?_
                      refine s_aload rfl rfl ?_
                      refine s_iload rfl rfl ?_
                      refine s_iload rfl rfl ?_
                      refine s_callI [.ref o0, .int v5_27, .int v6_32] [] rfl rfl (Nat.le_of_ble_eq_true rfl) (ev_251 (d := d) (by omega) hT34 ho0) (fun r38 w37 hT37 => ?_)
                      refine s_istoreF [(0, .ref o0), (1, .int p1), (3, .int p3), (4, .int v4_31), (5, .int v5_27), (6, .int v6_32), (7, .int r38)] rfl (subl_c rfl (subl_c rfl (subl_c rfl (subl_c rfl (subl_c rfl (subl_c rfl (subl_c rfl (subl_n)))))))) ?_
                      refine s_iload rfl rfl ?_
                      refine sp_ite (fun h39 => ?_) (fun h39 => ?_)
                      · refine s_if0 rfl (zc_lt0 h39) ?_
                        refine s_aload rfl rfl ?_
                        refine s_getF rfl hT37 ho0 rfl ?_
                        refine s_const rfl ?_
                        refine s_iload rfl rfl ?_
                        refine s_bin rfl rfl ?_
                        refine s_iald rfl hT37 (of_10_6 ho0) ?_
                        refine s_const rfl ?_
                        refine sp_ite (fun h40 => ?_) (fun h40 => ?_)
                        · refine s_ic0 rfl (zc_ne0 h40) ?_
                          refine s_goto rfl ?_
                          refine s_iincF (fun v6_41 => [(0, .ref o0), (1, .int p1), (3, .int p3), (4, .int v4_31), (5, .int v5_27), (6, .int v6_41)]) rfl rfl (fun _ => subl_c rfl (subl_c rfl (subl_c rfl (subl_c rfl (subl_c rfl (subl_c rfl (subl_n))))))) (fun v6_41 => ?_)
                          refine s_goto rfl ?_
                          exact s_back (lvL := lvL33) (s' := (v4_31, v6_41)) (subl_c rfl (subl_c rfl (subl_c rfl (subl_c rfl (subl_c rfl (subl_c rfl (subl_n))))))) hT37 (fun _ _ h => h)
                        · refine s_ic1 rfl (zc_ne1 h40) ?_
                          refine s_aload rfl rfl ?_
                          refine s_getF rfl hT37 ho0 rfl ?_
                          refine s_iload rfl rfl ?_
                          refine s_iald rfl hT37 (of_10_30 ho0) ?_
                          refine s_const rfl ?_
                          refine s_aload rfl rfl ?_
                          refine s_iload rfl rfl ?_
                          refine s_iload rfl rfl ?_
                          refine s_callI [.ref o0, .int p1, .int r38] [.int 1000, .int (wI w37 (o0 + 12) (ix v5_27))] rfl rfl (Nat.le_of_ble_eq_true rfl) (ev_250 (d := d) (by omega) hT37 ho0) (fun r43 w42 hT42 => ?_)
                          refine s_bin rfl rfl ?_
                          refine s_bin rfl rfl ?_
                          refine s_const rfl ?_
                          refine s_bin rfl rfl ?_
                          refine s_nmI (fun v8_44 => ?_)
                          refine s_istoreF [(0, .ref o0), (1, .int p1), (3, .int p3), (4, .int v4_31), (5, .int v5_27), (6, .int v6_32), (7, .int r38), (8, .int v8_44)] rfl (subl_c rfl (subl_c rfl (subl_c rfl (subl_c rfl (subl_c rfl (subl_c rfl (subl_c rfl (subl_c rfl (subl_n))))))))) ?_
                          refine s_iload rfl rfl ?_
                          refine s_aload rfl rfl ?_
                          refine s_getF rfl hT42 ho0 rfl ?_
                          refine s_iload rfl rfl ?_
                          refine s_iald rfl hT42 (of_10_30 ho0) ?_
                          refine sp_ite (fun h45 => ?_) (fun h45 => ?_)
                          · refine s_ic0 rfl (zc_lt0 h45) ?_
                            refine s_goto rfl ?_
                            refine s_iincF (fun v6_46 => [(0, .ref o0), (1, .int p1), (3, .int p3), (4, .int v4_31), (5, .int v5_27), (6, .int v6_46)]) rfl rfl (fun _ => subl_c rfl (subl_c rfl (subl_c rfl (subl_c rfl (subl_c rfl (subl_c rfl (subl_n))))))) (fun v6_46 => ?_)
                            refine s_goto rfl ?_
                            exact s_back (lvL := lvL33) (s' := (v4_31, v6_46)) (subl_c rfl (subl_c rfl (subl_c rfl (subl_c rfl (subl_c rfl (subl_c rfl (subl_n))))))) hT42 (fun _ _ h => h)
                          · refine s_ic1 rfl (zc_lt1 h45) ?_
                            refine s_aload rfl rfl ?_
                            refine s_getF rfl hT42 ho0 rfl ?_
                            refine s_iload rfl rfl ?_
                            refine s_iload rfl rfl ?_
                            refine s_iast rfl hT42 (of_10_30 ho0) (fun w47 hT47 => ?_)
                            refine s_const rfl ?_
                            refine s_istoreF [(0, .ref o0), (1, .int p1), (3, .int p3), (4, .int 1), (5, .int v5_27), (6, .int v6_32)] rfl (subl_c rfl (subl_c rfl (subl_c rfl (subl_c rfl (subl_c rfl (subl_c rfl (subl_n))))))) ?_
                            refine s_iincF (fun v6_48 => [(0, .ref o0), (1, .int p1), (3, .int p3), (4, .int 1), (5, .int v5_27), (6, .int v6_48)]) rfl rfl (fun _ => subl_c rfl (subl_c rfl (subl_c rfl (subl_c rfl (subl_c rfl (subl_c rfl (subl_n))))))) (fun v6_48 => ?_)
                            refine s_goto rfl ?_
                            exact s_back (lvL := lvL33) (s' := (1, v6_48)) (subl_c rfl (subl_c rfl (subl_c rfl (subl_c rfl (subl_c rfl (subl_c rfl (subl_n))))))) hT47 (fun _ _ h => h)
                      · refine s_if1 rfl (zc_lt1 h39) ?_
                        refine s_iincF (fun v6_49 => [(0, .ref o0), (1, .int p1), (3, .int p3), (4, .int v4_31), (5, .int v5_27), (6, .int v6_49)]) rfl rfl (fun _ => subl_c rfl (subl_c rfl (subl_c rfl (subl_c rfl (subl_c rfl (subl_c rfl (subl_n))))))) (fun v6_49 => ?_)
                        refine s_goto rfl ?_
                        exact s_back (lvL := lvL33) (s' := (v4_31, v6_49)) (subl_c rfl (subl_c rfl (subl_c rfl (subl_c rfl (subl_c rfl (subl_c rfl (subl_n))))))) hT37 (fun _ _ h => h)
                    · refine s_ic1 rfl (zc_ge1 h36) ?_
                      refine s_iincF (fun v5_50 => [(0, .ref o0), (1, .int p1), (3, .int p3), (4, .int v4_31), (5, .int v5_50)]) rfl rfl (fun _ => subl_c rfl (subl_c rfl (subl_c rfl (subl_c rfl (subl_c rfl (subl_n)))))) (fun v5_50 => ?_)
                      refine s_goto rfl ?_
                      exact s_back (lvL := lvL28) (s' := (v4_31, v5_50)) (subl_c rfl (subl_c rfl (subl_c rfl (subl_c rfl (subl_c rfl (subl_n)))))) hT34 (fun _ _ h => h)
                  · refine s_ic1 rfl (zc_ge1 h35) ?_
                    refine s_iincF (fun v5_51 => [(0, .ref o0), (1, .int p1), (3, .int p3), (4, .int v4_31), (5, .int v5_51)]) rfl rfl (fun _ => subl_c rfl (subl_c rfl (subl_c rfl (subl_c rfl (subl_c rfl (subl_n)))))) (fun v5_51 => ?_)
                    refine s_goto rfl ?_
                    exact s_back (lvL := lvL28) (s' := (v4_31, v5_51)) (subl_c rfl (subl_c rfl (subl_c rfl (subl_c rfl (subl_c rfl (subl_n)))))) hT34 (fun _ _ h => h)
                · refine s_ic1 rfl (zc_ge1 h30) ?_
                  refine s_goto rfl ?_
                  exact s_back (lvL := lvL22) (s' := v4_26) (subl_c rfl (subl_c rfl (subl_c rfl (subl_c rfl (subl_n))))) hT29 (fun _ _ h => h)
      · refine s_if1 rfl (zb_eq1 h9) ?_
        refine s_const rfl ?_
        exact s_retI rfl rfl hT7 (fun _ _ h => h)
    · refine s_if1 rfl (zb_eq1 h6) ?_
      refine s_const rfl ?_
      exact s_retI rfl rfl hT4 (fun _ _ h => h)
  · refine s_if1 rfl (zb_eq1 h3) ?_
    refine s_const rfl ?_
    exact s_retI rfl rfl hT1 (fun _ _ h => h)
