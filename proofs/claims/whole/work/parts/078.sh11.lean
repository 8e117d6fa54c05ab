/-! printed by program (wip/whole/gen/sh.py): the methods as programs over worlds, and that the small machine does what they say -/
/-- RugReaderModel.said(I)I -/
def sh_279 (o0 : Nat) (p1 : Int32) (w : Wd) : Option (Int32 × Wd) := stI w o0 0 0 (fun w1 => gd (ib 10084 10265) (if wI w1 (o0 + 2) (ix 10084) = 0 then (some ((-1), w1)) else (if p1 < (-1) then (some ((-1), w1)) else (itM (fun (s19 : Int32 × Int32) (w7 : Wd) => match s19 with | (v2_4, v3_5) => gd (ib 2 10265) (if v3_5 < wI w7 (o0 + 2) (ix 2) then (cl (sh_280 o0 v3_5 w7) (fun r10 w9 => if r10 = true then (if v2_4 = p1 then (some (.inr (v3_5), w9)) else (lt (v2_4 + 1 : Int32) (fun v2_13 => lt (v3_5 + 1 : Int32) (fun v3_14 => some (.inl (v2_13, v3_14), w9))))) else (lt (v3_5 + 1 : Int32) (fun v3_15 => some (.inl (v2_4, v3_15), w9))))) else (lt (if p1 = (-1) then v2_4 else (-1) : Int32) (fun z16 => some (.inr (z16), w7))))) FU (0, 0) w1))))
set_option maxRecDepth 20000 in
set_option maxHeartbeats 4000000 in
theorem ev_279 {d : Nat} (hd : 6 ≤ d) {o0 : Nat} {p1 : Int32} {w : Wd} (hT : TY w) (ho0 : ist o0 10) : sp (sh_279 o0 p1 w) (fun r w' => TY w' ∧ Ev d 279 [.ref o0, .int p1] w (cvI r) w') := by
  obtain ⟨d, rfl⟩ : ∃ d', d = d' + 1 := ⟨d - 1, by omega⟩
  refine ev_of (M := M279) zin_279 rfl (by decide) rfl (Nat.le_of_ble_eq_true rfl) (Or.inr ⟨o0, _, rfl, ho0⟩) hT ?_
  show sp _ (PP (Ev d) M279 (KR cvI) (0, [(0, .ref o0), (1, .int p1)], [], w))
  unfold sh_279
  refine s_aload rfl rfl ?_
  refine s_const rfl ?_
  refine s_putI rfl hT ho0 rfl (fun w1 hT1 => ?_)
  refine s_aload rfl rfl ?_
  refine s_getF rfl hT1 ho0 rfl ?_
  refine s_const rfl ?_
  refine s_iald rfl hT1 (of_10_6 ho0) ?_
  refine sp_ite (fun h2 => ?_) (fun h2 => ?_)
  · refine s_if1 rfl (zc_eq1 h2) ?_
    refine s_const rfl ?_
    exact s_retI rfl rfl hT1 (fun _ _ h => h)
  · refine s_if0 rfl (zc_eq0 h2) ?_
    refine s_iload rfl rfl ?_
    refine s_const rfl ?_
    refine sp_ite (fun h3 => ?_) (fun h3 => ?_)
    · refine s_ic0 rfl (zc_ge0 h3) ?_
      refine s_const rfl ?_
      exact s_retI rfl rfl hT1 (fun _ _ h => h)
    · refine s_ic1 rfl (zc_ge1 h3) ?_
      refine s_const rfl ?_
      refine s_istoreF [(0, .ref o0), (1, .int p1), (2, .int 0)] rfl (subl_c rfl (subl_c rfl (subl_c rfl (subl_n)))) ?_
      refine s_const rfl ?_
      refine s_istoreF [(0, .ref o0), (1, .int p1), (2, .int 0), (3, .int 0)] rfl (subl_c rfl (subl_c rfl (subl_c rfl (subl_c rfl (subl_n))))) ?_
      let lvL6 : Int32 × Int32 → List (Nat × Value) := fun s19 => [(0, .ref o0), (1, .int p1), (2, .int (s19.1)), (3, .int (s19.2))]
      refine s_loop lvL6 (subl_c rfl (subl_c rfl (subl_c rfl (subl_c rfl (subl_n))))) hT1 (fun s19 w7 hT7 => ?_)
      obtain ⟨v2_4, v3_5⟩ := s19
      show sp _ (PP _ _ _ (27, [(0, .ref o0), (1, .int p1), (2, .int v2_4), (3, .int v3_5)], [], w7))
      refine s_iload rfl rfl ?_
      refine s_aload rfl rfl ?_
      refine s_getF rfl hT7 ho0 rfl ?_
      refine s_const rfl ?_
      refine s_iald rfl hT7 (of_10_6 ho0) ?_
      refine sp_ite (fun h8 => ?_) (fun h8 => ?_)
      · refine s_ic0 rfl (zc_ge0 h8) ?_
        refine s_aload rfl rfl ?_
        refine s_iload rfl rfl ?_
        refine s_callZ [.ref o0, .int v3_5] [] rfl rfl (Nat.le_of_ble_eq_true rfl) (ev_280 (d := d) (by omega) hT7 ho0) (fun r10 w9 hT9 => ?_)
        refine sp_ite (fun h11 => ?_) (fun h11 => ?_)
        · refine s_if1 rfl (zb_ne1 h11) ?_
          refine s_iload rfl rfl ?_
          refine s_iload rfl rfl ?_
          refine sp_ite (fun h12 => ?_) (fun h12 => ?_)
          · refine s_ic0 rfl (zc_ne0 h12) ?_
            refine s_iload rfl rfl ?_
            exact s_retI rfl rfl hT9 (fun _ _ h => h)
          · refine s_ic1 rfl (zc_ne1 h12) ?_
            refine s_iincF (fun v2_13 => [(0, .ref o0), (1, .int p1), (2, .int v2_13), (3, .int v3_5)]) rfl rfl (fun _ => subl_c rfl (subl_c rfl (subl_c rfl (subl_c rfl (subl_n))))) (fun v2_13 => ?_)
            refine s_iincF (fun v3_14 => [(0, .ref o0), (1, .int p1), (2, .int v2_13), (3, .int v3_14)]) rfl rfl (fun _ => subl_c rfl (subl_c rfl (subl_c rfl (subl_c rfl (subl_n))))) (fun v3_14 => ?_)
            refine s_goto rfl ?_
            exact s_back (lvL := lvL6) (s' := (v2_13, v3_14)) (subl_c rfl (subl_c rfl (subl_c rfl (subl_c rfl (subl_n))))) hT9 (fun _ _ h => h)
        · refine s_if0 rfl (zb_ne0 h11) ?_
          refine s_goto rfl ?_
          refine s_iincF (fun v3_15 => [(0, .ref o0), (1, .int p1), (2, .int v2_4), (3, .int v3_15)]) rfl rfl (fun _ => subl_c rfl (subl_c rfl (subl_c rfl (subl_c rfl (subl_n))))) (fun v3_15 => ?_)
          refine s_goto rfl ?_
          exact s_back (lvL := lvL6) (s' := (v2_4, v3_15)) (subl_c rfl (subl_c rfl (subl_c rfl (subl_c rfl (subl_n))))) hT9 (fun _ _ h => h)
      · refine s_ic1 rfl (zc_ge1 h8) ?_
        refine s_iload rfl rfl ?_
        refine s_const rfl ?_
        refine sp_lt (fun z16 hz16 => ?_)
        refine s_dia (74, [(0, .ref o0), (1, .int p1), (2, .int v2_4), (3, .int v3_5)], [.int z16], w7) ?_ (fun hk17 => ?_)
        · exact s_retI rfl rfl hT7 (fun _ _ h => h)
        · by_cases h18 : p1 = (-1)
          · refine s_ic0 rfl (zc_ne0 h18) ?_
            refine s_iload rfl rfl ?_
            refine s_goto rfl ?_
            refine s_cong ?_ hk17
            (rw [hz16, if_pos h18])
          · refine s_ic1 rfl (zc_ne1 h18) ?_
            refine s_const rfl ?_
            refine s_cong ?_ hk17
            (rw [hz16, if_neg h18])
/-- RugReaderModel.image(I)Z -/
def sh_283 (o0 : Nat) (p1 : Int32) (w : Wd) : Option (Bool × Wd) := stI w o0 0 0 (fun w1 => cl (sh_199 p1 0 1 w1) (fun r3 w2 => if r3 = true then (itM (fun (v2_5 : Int32) (w7 : Wd) => if v2_5 < 10265 then (gd (ib v2_5 10265) (gd (ib ((10265 * p1) + v2_5) 20530) (stI w7 (o0 + 22) (ix ((10265 * p1) + v2_5)) (wI w7 (o0 + 2) (ix v2_5)) (fun w9 => lt (v2_5 + 1 : Int32) (fun v2_10 => some (.inl v2_10, w9)))))) else (itM (fun (v2_11 : Int32) (w13 : Wd) => if v2_11 < 12 then (gd (ib v2_11 24) (gd (ib ((12 * p1) + v2_11) 24) (stL w13 (o0 + 23) (ix ((12 * p1) + v2_11)) (wL w13 (o0 + 5) (ix v2_11)) (fun w15 => lt (v2_11 + 1 : Int32) (fun v2_16 => some (.inl v2_16, w15)))))) else (gd (ib p1 2) (stI w13 (o0 + 24) (ix p1) 1 (fun w17 => some (.inr (.inr (true)), w17))))) FU 0 w7)) FU 0 w2) else (some (false, w2))))
set_option maxRecDepth 20000 in
set_option maxHeartbeats 4000000 in
theorem ev_283 {d : Nat} (hd : 2 ≤ d) {o0 : Nat} {p1 : Int32} {w : Wd} (hT : TY w) (ho0 : ist o0 10) : sp (sh_283 o0 p1 w) (fun r w' => TY w' ∧ Ev d 283 [.ref o0, .int p1] w (cvZ r) w') := by
  obtain ⟨d, rfl⟩ : ∃ d', d = d' + 1 := ⟨d - 1, by omega⟩
  refine ev_of (M := M283) zin_283 rfl (by decide) rfl (Nat.le_of_ble_eq_true rfl) (Or.inr ⟨o0, _, rfl, ho0⟩) hT ?_
  show sp _ (PP (Ev d) M283 (KR cvZ) (0, [(0, .ref o0), (1, .int p1)], [], w))
  unfold sh_283
  refine s_aload rfl rfl ?_
  refine s_const rfl ?_
  refine s_putI rfl hT ho0 rfl (fun w1 hT1 => ?_)
  refine s_iload rfl rfl ?_
  refine s_const rfl ?_
  refine s_const rfl ?_
  refine s_callZ [.int p1, .int 0, .int 1] [] rfl rfl (Nat.le_of_ble_eq_true rfl) (ev_199 (d := d) (by omega) hT1 ) (fun r3 w2 hT2 => ?_)
  refine sp_ite (fun h4 => ?_) (fun h4 => ?_)
  · refine s_if1 rfl (zb_ne1 h4) ?_
    refine s_const rfl ?_
    refine s_istoreF [(0, .ref o0), (1, .int p1), (2, .int 0)] rfl (subl_c rfl (subl_c rfl (subl_c rfl (subl_n)))) ?_
    let lvL6 : Int32 → List (Nat × Value) := fun s19 => [(0, .ref o0), (1, .int p1), (2, .int s19)]
    refine s_loop lvL6 (subl_c rfl (subl_c rfl (subl_c rfl (subl_n)))) hT2 (fun v2_5 w7 hT7 => ?_)
    show sp _ (PP _ _ _ (18, [(0, .ref o0), (1, .int p1), (2, .int v2_5)], [], w7))
    refine s_iload rfl rfl ?_
    refine s_const rfl ?_
    refine sp_ite (fun h8 => ?_) (fun h8 => ?_)
    · refine s_ic0 rfl (zc_ge0 h8) ?_
      refine s_aload rfl rfl ?_
      refine s_getF rfl hT7 ho0 rfl ?_
      refine s_const rfl ?_
      refine s_iload rfl rfl ?_
      refine s_bin rfl rfl ?_
      refine s_iload rfl rfl ?_
      refine s_bin rfl rfl ?_
      refine s_aload rfl rfl ?_
      refine s_getF rfl hT7 ho0 rfl ?_
      refine s_iload rfl rfl ?_
      refine s_iald rfl hT7 (of_10_6 ho0) ?_
      refine s_iast rfl hT7 (of_10_52 ho0) (fun w9 hT9 => ?_)
      refine s_iincF (fun v2_10 => [(0, .ref o0), (1, .int p1), (2, .int v2_10)]) rfl rfl (fun _ => subl_c rfl (subl_c rfl (subl_c rfl (subl_n)))) (fun v2_10 => ?_)
      refine s_goto rfl ?_
      exact s_back (lvL := lvL6) (s' := v2_10) (subl_c rfl (subl_c rfl (subl_c rfl (subl_n)))) hT9 (fun _ _ h => h)
    · refine s_ic1 rfl (zc_ge1 h8) ?_
      refine s_const rfl ?_
      refine s_istoreF [(0, .ref o0), (1, .int p1), (2, .int 0)] rfl (subl_c rfl (subl_c rfl (subl_c rfl (subl_n)))) ?_
      let lvL12 : Int32 → List (Nat × Value) := fun s18 => [(0, .ref o0), (1, .int p1), (2, .int s18)]
      refine s_loop lvL12 (subl_c rfl (subl_c rfl (subl_c rfl (subl_n)))) hT7 (fun v2_11 w13 hT13 => ?_)
      show sp _ (PP _ _ _ (51, [(0, .ref o0), (1, .int p1), (2, .int v2_11)], [], w13))
      refine s_iload rfl rfl ?_
      refine s_const rfl ?_
      refine sp_ite (fun h14 => ?_) (fun h14 => ?_)
      · refine s_ic0 rfl (zc_ge0 h14) ?_
        refine s_aload rfl rfl ?_
        refine s_getF rfl hT13 ho0 rfl ?_
        refine s_const rfl ?_
        refine s_iload rfl rfl ?_
        refine s_bin rfl rfl ?_
        refine s_iload rfl rfl ?_
        refine s_bin rfl rfl ?_
        refine s_aload rfl rfl ?_
        refine s_getF rfl hT13 ho0 rfl ?_
        refine s_iload rfl rfl ?_
        refine s_lald rfl hT13 (of_10_9 ho0) ?_
        refine s_last rfl hT13 (of_10_53 ho0) (fun w15 hT15 => ?_)
        refine s_iincF (fun v2_16 => [(0, .ref o0), (1, .int p1), (2, .int v2_16)]) rfl rfl (fun _ => subl_c rfl (subl_c rfl (subl_c rfl (subl_n)))) (fun v2_16 => ?_)
        refine s_goto rfl ?_
        exact s_back (lvL := lvL12) (s' := v2_16) (subl_c rfl (subl_c rfl (subl_c rfl (subl_n)))) hT15 (fun _ _ h => h)
      · refine s_ic1 rfl (zc_ge1 h14) ?_
        refine s_aload rfl rfl ?_
        refine s_getF rfl hT13 ho0 rfl ?_
        refine s_iload rfl rfl ?_
        refine s_const rfl ?_
        refine s_zast rfl hT13 (of_10_54 ho0) rfl (fun w17 hT17 => ?_)
        refine s_const rfl ?_
        exact s_retZ (z := true) rfl rfl hT17 (fun _ _ h => h)
  · refine s_if0 rfl (zb_ne0 h4) ?_
    refine s_const rfl ?_
    exact s_retZ (z := false) rfl rfl hT2 (fun _ _ h => h)
/-- RugReaderModel.restore(I)Z -/
def sh_284 (o0 : Nat) (p1 : Int32) (w : Wd) : Option (Bool × Wd) := stI w o0 0 0 (fun w1 => cl (sh_199 p1 0 1 w1) (fun r3 w2 => if r3 = true then (gd (ib p1 2) (if wI w2 (o0 + 24) (ix p1) = 0 then (some (false, w2)) else (itM (fun (v2_6 : Int32) (w8 : Wd) => if v2_6 < 10265 then (gd (ib ((10265 * p1) + v2_6) 20530) (gd (ib v2_6 10265) (stI w8 (o0 + 2) (ix v2_6) (wI w8 (o0 + 22) (ix ((10265 * p1) + v2_6))) (fun w10 => lt (v2_6 + 1 : Int32) (fun v2_11 => some (.inl v2_11, w10)))))) else (itM (fun (v2_12 : Int32) (w14 : Wd) => if v2_12 < 12 then (gd (ib ((12 * p1) + v2_12) 24) (gd (ib v2_12 24) (stL w14 (o0 + 5) (ix v2_12) (wL w14 (o0 + 23) (ix ((12 * p1) + v2_12))) (fun w16 => lt (v2_12 + 1 : Int32) (fun v2_17 => some (.inl v2_17, w16)))))) else (stI w14 o0 23 0 (fun w18 => some (.inr (.inr (true)), w18)))) FU 0 w8)) FU 0 w2))) else (some (false, w2))))
set_option maxRecDepth 20000 in
set_option maxHeartbeats 4000000 in
theorem ev_284 {d : Nat} (hd : 2 ≤ d) {o0 : Nat} {p1 : Int32} {w : Wd} (hT : TY w) (ho0 : ist o0 10) : sp (sh_284 o0 p1 w) (fun r w' => TY w' ∧ Ev d 284 [.ref o0, .int p1] w (cvZ r) w') := by
  obtain ⟨d, rfl⟩ : ∃ d', d = d' + 1 := ⟨d - 1, by omega⟩
  refine ev_of (M := M284) zin_284 rfl (by decide) rfl (Nat.le_of_ble_eq_true rfl) (Or.inr ⟨o0, _, rfl, ho0⟩) hT ?_
  show sp _ (PP (Ev d) M284 (KR cvZ) (0, [(0, .ref o0), (1, .int p1)], [], w))
  unfold sh_284
  refine s_aload rfl rfl ?_
  refine s_const rfl ?_
  refine s_putI rfl hT ho0 rfl (fun w1 hT1 => ?_)
  refine s_iload rfl rfl ?_
  refine s_const rfl ?_
  refine s_const rfl ?_
  refine s_callZ [.int p1, .int 0, .int 1] [] rfl rfl (Nat.le_of_ble_eq_true rfl) (ev_199 (d := d) (by omega) hT1 ) (fun r3 w2 hT2 => ?_)
  refine sp_ite (fun h4 => ?_) (fun h4 => ?_)
  · refine s_if0 rfl (zb_eq0 h4) ?_
    refine s_aload rfl rfl ?_
    refine s_getF rfl hT2 ho0 rfl ?_
    refine s_iload rfl rfl ?_
    refine s_bald rfl hT2 (of_10_54 ho0) (Or.inr rfl) ?_
    refine sp_ite (fun h5 => ?_) (fun h5 => ?_)
    · refine s_if0 rfl (zc_ne0 h5) ?_
      refine s_const rfl ?_
      exact s_retZ (z := false) rfl rfl hT2 (fun _ _ h => h)
    · refine s_if1 rfl (zc_ne1 h5) ?_
      refine s_const rfl ?_
      refine s_istoreF [(0, .ref o0), (1, .int p1), (2, .int 0)] rfl (subl_c rfl (subl_c rfl (subl_c rfl (subl_n)))) ?_
      let lvL7 : Int32 → List (Nat × Value) := fun s20 => [(0, .ref o0), (1, .int p1), (2, .int s20)]
      refine s_loop lvL7 (subl_c rfl (subl_c rfl (subl_c rfl (subl_n)))) hT2 (fun v2_6 w8 hT8 => ?_)
      show sp _ (PP _ _ _ (27, [(0, .ref o0), (1, .int p1), (2, .int v2_6)], [], w8))
      refine s_iload rfl rfl ?_
      refine s_const rfl ?_
      refine sp_ite (fun h9 => ?_) (fun h9 => ?_)
      · refine s_ic0 rfl (zc_ge0 h9) ?_
        refine s_aload rfl rfl ?_
        refine s_getF rfl hT8 ho0 rfl ?_
        refine s_iload rfl rfl ?_
        refine s_aload rfl rfl ?_
        refine s_getF rfl hT8 ho0 rfl ?_
        refine s_const rfl ?_
        refine s_iload rfl rfl ?_
        refine s_bin rfl rfl ?_
        refine s_iload rfl rfl ?_
        refine s_bin rfl rfl ?_
        refine s_iald rfl hT8 (of_10_52 ho0) ?_
        refine s_iast rfl hT8 (of_10_6 ho0) (fun w10 hT10 => ?_)
        refine s_iincF (fun v2_11 => [(0, .ref o0), (1, .int p1), (2, .int v2_11)]) rfl rfl (fun _ => subl_c rfl (subl_c rfl (subl_c rfl (subl_n)))) (fun v2_11 => ?_)
        refine s_goto rfl ?_
        exact s_back (lvL := lvL7) (s' := v2_11) (subl_c rfl (subl_c rfl (subl_c rfl (subl_n)))) hT10 (fun _ _ h => h)
      · refine s_ic1 rfl (zc_ge1 h9) ?_
        refine s_const rfl ?_
        refine s_istoreF [(0, .ref o0), (1, .int p1), (2, .int 0)] rfl (subl_c rfl (subl_c rfl (subl_c rfl (subl_n)))) ?_
        let lvL13 : Int32 → List (Nat × Value) := fun s19 => [(0, .ref o0), (1, .int p1), (2, .int s19)]
        refine s_loop lvL13 (subl_c rfl (subl_c rfl (subl_c rfl (subl_n)))) hT8 (fun v2_12 w14 hT14 => ?_)
        show sp _ (PP _ _ _ (60, [(0, .ref o0), (1, .int p1), (2, .int v2_12)], [], w14))
        refine s_iload rfl rfl ?_
        refine s_const rfl ?_
        refine sp_ite (fun h15 => ?_) (fun h15 => ?_)
        · refine s_ic0 rfl (zc_ge0 h15) ?_
          refine s_aload rfl rfl ?_
          refine s_getF rfl hT14 ho0 rfl ?_
          refine s_iload rfl rfl ?_
          refine s_aload rfl rfl ?_
          refine s_getF rfl hT14 ho0 rfl ?_
          refine s_const rfl ?_
          refine s_iload rfl rfl ?_
          refine s_bin rfl rfl ?_
          refine s_iload rfl rfl ?_
          refine s_bin rfl rfl ?_
          refine s_lald rfl hT14 (of_10_53 ho0) ?_
          refine s_last rfl hT14 (of_10_9 ho0) (fun w16 hT16 => ?_)
          refine s_iincF (fun v2_17 => [(0, .ref o0), (1, .int p1), (2, .int v2_17)]) rfl rfl (fun _ => subl_c rfl (subl_c rfl (subl_c rfl (subl_n)))) (fun v2_17 => ?_)
          refine s_goto rfl ?_
          exact s_back (lvL := lvL13) (s' := v2_17) (subl_c rfl (subl_c rfl (subl_c rfl (subl_n)))) hT16 (fun _ _ h => h)
        · refine s_ic1 rfl (zc_ge1 h15) ?_
          refine s_aload rfl rfl ?_
          refine s_const rfl ?_
          refine s_putI rfl hT14 ho0 rfl (fun w18 hT18 => ?_)
          refine s_const rfl ?_
          exact s_retZ (z := true) rfl rfl hT18 (fun _ _ h => h)
  · refine s_if1 rfl (zb_eq1 h4) ?_
    refine s_const rfl ?_
    exact s_retZ (z := false) rfl rfl hT2 (fun _ _ h => h)
/-- RugReaderModel.count(I)I -/
def sh_285 (o0 : Nat) (p1 : Int32) (w : Wd) : Option (Int32 × Wd) := stI w o0 0 0 (fun w1 => if p1 = 7 then (gd (ib 429 10265) (some (wI w1 (o0 + 2) (ix 429), w1))) else (if p1 = 8 then (some (wI w1 o0 2, w1)) else (cl (sh_199 p1 0 6 w1) (fun r5 w4 => if r5 = true then (gd (ib p1 10265) (some (wI w4 (o0 + 2) (ix p1), w4))) else (some ((-1), w4))))))
set_option maxRecDepth 20000 in
set_option maxHeartbeats 4000000 in
theorem ev_285 {d : Nat} (hd : 2 ≤ d) {o0 : Nat} {p1 : Int32} {w : Wd} (hT : TY w) (ho0 : ist o0 10) : sp (sh_285 o0 p1 w) (fun r w' => TY w' ∧ Ev d 285 [.ref o0, .int p1] w (cvI r) w') := by
  obtain ⟨d, rfl⟩ : ∃ d', d = d' + 1 := ⟨d - 1, by omega⟩
  refine ev_of (M := M285) zin_285 rfl (by decide) rfl (Nat.le_of_ble_eq_true rfl) (Or.inr ⟨o0, _, rfl, ho0⟩) hT ?_
  show sp _ (PP (Ev d) M285 (KR cvI) (0, [(0, .ref o0), (1, .int p1)], [], w))
  unfold sh_285
  refine s_aload rfl rfl ?_
  refine s_const rfl ?_
  refine s_putI rfl hT ho0 rfl (fun w1 hT1 => ?_)
  refine s_iload rfl rfl ?_
  refine s_const rfl ?_
  refine sp_ite (fun h2 => ?_) (fun h2 => ?_)
  · refine s_ic0 rfl (zc_ne0 h2) ?_
    refine s_aload rfl rfl ?_
    refine s_getF rfl hT1 ho0 rfl ?_
    refine s_const rfl ?_
    refine s_iald rfl hT1 (of_10_6 ho0) ?_
    refine s_goto rfl ?_
    exact s_retI rfl rfl hT1 (fun _ _ h => h)
  · refine s_ic1 rfl (zc_ne1 h2) ?_
    refine s_iload rfl rfl ?_
    refine s_const rfl ?_
    refine sp_ite (fun h3 => ?_) (fun h3 => ?_)
    · refine s_ic0 rfl (zc_ne0 h3) ?_
      refine s_aload rfl rfl ?_
      refine s_getI rfl hT1 ho0 ?_
      refine s_goto rfl ?_
      exact s_retI rfl rfl hT1 (fun _ _ h => h)
    · refine s_ic1 rfl (zc_ne1 h3) ?_
      refine s_iload rfl rfl ?_
      refine s_const rfl ?_
      refine s_const rfl ?_
      refine s_callZ [.int p1, .int 0, .int 6] [] rfl rfl (Nat.le_of_ble_eq_true rfl) (ev_199 (d := d) (by omega) hT1 ) (fun r5 w4 hT4 => ?_)
      refine sp_ite (fun h6 => ?_) (fun h6 => ?_)
      · refine s_if0 rfl (zb_eq0 h6) ?_
        refine s_aload rfl rfl ?_
        refine s_getF rfl hT4 ho0 rfl ?_
        refine s_iload rfl rfl ?_
        refine s_iald rfl hT4 (of_10_6 ho0) ?_
        refine s_goto rfl ?_
        exact s_retI rfl rfl hT4 (fun _ _ h => h)
      · refine s_if1 rfl (zb_eq1 h6) ?_
        refine s_const rfl ?_
        exact s_retI rfl rfl hT4 (fun _ _ h => h)
/-- RugReader.person(II)I -/
def sh_180 (o0 : Nat) (p1 : Int32) (p2 : Int32) (w : Wd) : Option (Int32 × Wd) := der (wR w o0 2) (fun a1 => cl (sh_69 a1 p1 w) (fun r3 w2 => if r3 = true then (if 0 ≤ p2 then (if 5 < p2 then (none) else (if p2 = 5 then (cl (sh_157 (o0 + 35) p1 w2) (fun r9 w8 => some (r9, w8))) else (der (wR w2 o0 2) (fun a10 => cl (sh_172 a10 (o0 + 35) p1 p2 w2) (fun r12 w11 => some (r12, w11)))))) else (none)) else (none)))
set_option maxRecDepth 20000 in
set_option maxHeartbeats 4000000 in
theorem ev_180 {d : Nat} (hd : 5 ≤ d) {o0 : Nat} {p1 : Int32} {p2 : Int32} {w : Wd} (hT : TY w) (ho0 : ist o0 9) : sp (sh_180 o0 p1 p2 w) (fun r w' => TY w' ∧ Ev d 180 [.ref o0, .int p1, .int p2] w (cvI r) w') := by
  obtain ⟨d, rfl⟩ : ∃ d', d = d' + 1 := ⟨d - 1, by omega⟩
  refine ev_of (M := M180) zin_180 rfl (by decide) rfl (Nat.le_of_ble_eq_true rfl) (Or.inr ⟨o0, _, rfl, ho0⟩) hT ?_
  show sp _ (PP (Ev d) M180 (KR cvI) (0, [(0, .ref o0), (1, .int p1), (2, .int p2)], [], w))
  unfold sh_180
  refine s_aload rfl rfl ?_
  refine s_getD rfl hT ho0 (by decide) rfl (fun a1 ha1 => ?_)
  refine s_iload rfl rfl ?_
  refine s_callZ [.ref a1, .int p1] [] rfl rfl (Nat.le_of_ble_eq_true rfl) (ev_69 (d := d) (by omega) hT ha1) (fun r3 w2 hT2 => ?_)
  refine sp_ite (fun h4 => ?_) (fun h4 => ?_)
  · refine s_if0 rfl (zb_eq0 h4) ?_
    refine s_iload rfl rfl ?_
    refine sp_ite (fun h5 => ?_) (fun h5 => ?_)
    · refine s_if0 rfl (zc_lt0 h5) ?_
      refine s_iload rfl rfl ?_
      refine s_const rfl ?_
      refine sp_ite (fun h6 => ?_) (fun h6 => ?_)
      · refine s_ic0 rfl (zc_le0 h6) ?_
        exact sp_none
      · refine s_ic1 rfl (zc_le1 h6) ?_
        refine s_iload rfl rfl ?_
        refine s_const rfl ?_
        refine sp_ite (fun h7 => ?_) (fun h7 => ?_)
        · refine s_ic0 rfl (zc_ne0 h7) ?_
          refine s_aload rfl rfl ?_
          refine s_getF rfl hT2 ho0 rfl ?_
          refine s_iload rfl rfl ?_
          refine s_callI [.ref (o0 + 35), .int p1] [] rfl rfl (Nat.le_of_ble_eq_true rfl) (ev_157 (d := d) (by omega) hT2 (of_9_6 ho0)) (fun r9 w8 hT8 => ?_)
          refine s_goto rfl ?_
          exact s_retI rfl rfl hT8 (fun _ _ h => h)
        · refine s_ic1 rfl (zc_ne1 h7) ?_
          refine s_aload rfl rfl ?_
          refine s_getD rfl hT2 ho0 (by decide) rfl (fun a10 ha10 => ?_)
          refine s_aload rfl rfl ?_
          refine s_getF rfl hT2 ho0 rfl ?_
          refine s_iload rfl rfl ?_
          refine s_iload rfl rfl ?_
          refine s_callI [.ref a10, .ref (o0 + 35), .int p1, .int p2] [] rfl rfl (Nat.le_of_ble_eq_true rfl) (ev_172 (d := d) (by omega) hT2 ha10 (of_9_6 ho0)) (fun r12 w11 hT11 => ?_)
          exact s_retI rfl rfl hT11 (fun _ _ h => h)
    · refine s_if1 rfl (zc_lt1 h5) ?_
      exact sp_none
  · refine s_if1 rfl (zb_eq1 h4) ?_
    exact sp_none
/-- RugReader$Rug.printsOn(I)I -/
def sh_182 (o0 : Nat) (p1 : Int32) (w : Wd) : Option (Int32 × Wd) := itM (fun (s10 : Int32 × Int32) (w4 : Wd) => match s10 with | (v2_1, v3_2) => if v3_2 < 6 then (cl (sh_171 o0 v3_2 p1 w4) (fun r7 w6 => lt (v2_1 + r7 : Int32) (fun v2_8 => lt (v3_2 + 1 : Int32) (fun v3_9 => some (.inl (v2_8, v3_9), w6))))) else (some (.inr (v2_1), w4))) FU (0, 0) w
set_option maxRecDepth 20000 in
set_option maxHeartbeats 4000000 in
theorem ev_182 {d : Nat} (hd : 3 ≤ d) {o0 : Nat} {p1 : Int32} {w : Wd} (hT : TY w) (ho0 : ist o0 5) : sp (sh_182 o0 p1 w) (fun r w' => TY w' ∧ Ev d 182 [.ref o0, .int p1] w (cvI r) w') := by
  obtain ⟨d, rfl⟩ : ∃ d', d = d' + 1 := ⟨d - 1, by omega⟩
  refine ev_of (M := M182) zin_182 rfl (by decide) rfl (Nat.le_of_ble_eq_true rfl) (Or.inr ⟨o0, _, rfl, ho0⟩) hT ?_
  show sp _ (PP (Ev d) M182 (KR cvI) (0, [(0, .ref o0), (1, .int p1)], [], w))
  unfold sh_182
  refine s_const rfl ?_
  refine s_istoreF [(0, .ref o0), (1, .int p1), (2, .int 0)] rfl (subl_c rfl (subl_c rfl (subl_c rfl (subl_n)))) ?_
  refine s_const rfl ?_
  refine s_istoreF [(0, .ref o0), (1, .int p1), (2, .int 0), (3, .int 0)] rfl (subl_c rfl (subl_c rfl (subl_c rfl (subl_c rfl (subl_n))))) ?_
  let lvL3 : Int32 × Int32 → List (Nat × Value) := fun s10 => [(0, .ref o0), (1, .int p1), (2, .int (s10.1)), (3, .int (s10.2))]
  refine s_loop lvL3 (subl_c rfl (subl_c rfl (subl_c rfl (subl_c rfl (subl_n))))) hT (fun s10 w4 hT4 => ?_)
  obtain ⟨v2_1, v3_2⟩ := s10
  show sp _ (PP _ _ _ (4, [(0, .ref o0), (1, .int p1), (2, .int v2_1), (3, .int v3_2)], [], w4))
  refine s_iload rfl rfl ?_
  refine s_const rfl ?_
  refine sp_ite (fun h5 => ?_) (fun h5 => ?_)
  · refine s_ic0 rfl (zc_ge0 h5) ?_
    refine s_iload rfl rfl ?_
    refine s_aload rfl rfl ?_
    refine s_iload rfl rfl ?_
    refine s_iload rfl rfl ?_
    refine s_callI [.ref o0, .int v3_2, .int p1] [.int v2_1] rfl rfl (Nat.le_of_ble_eq_true rfl) (ev_171 (d := d) (by omega) hT4 ho0) (fun r7 w6 hT6 => ?_)
    refine s_bin rfl rfl ?_
    refine s_nmI (fun v2_8 => ?_)
    refine s_istoreF [(0, .ref o0), (1, .int p1), (2, .int v2_8), (3, .int v3_2)] rfl (subl_c rfl (subl_c rfl (subl_c rfl (subl_c rfl (subl_n))))) ?_
    refine s_iincF (fun v3_9 => [(0, .ref o0), (1, .int p1), (2, .int v2_8), (3, .int v3_9)]) rfl rfl (fun _ => subl_c rfl (subl_c rfl (subl_c rfl (subl_c rfl (subl_n))))) (fun v3_9 => ?_)
    refine s_goto rfl ?_
    exact s_back (lvL := lvL3) (s' := (v2_8, v3_9)) (subl_c rfl (subl_c rfl (subl_c rfl (subl_c rfl (subl_n))))) hT6 (fun _ _ h => h)
  · refine s_ic1 rfl (zc_ge1 h5) ?_
    refine s_iload rfl rfl ?_
    exact s_retI rfl rfl hT4 (fun _ _ h => h)
/-- RugReader$Rug.onTop(II)I -/
def sh_183 (o0 : Nat) (p1 : Int32) (p2 : Int32) (w : Wd) : Option (Int32 × Wd) := cl (sh_87 o0 p1 w) (fun r2 w1 => if r2 = true then (if p2 = 2 then (gd (ib p1 144) (some (wI w1 (o0 + 3) (ix p1), w1))) else (if p2 = 3 then (gd (ib p1 144) (some (wI w1 (o0 + 4) (ix p1), w1))) else (if p2 = 4 then (gd (ib p1 144) (some (wI w1 (o0 + 5) (ix p1), w1))) else (gd (ib p1 144) (some ((wI w1 o0 0) - (wI w1 (o0 + 6) (ix p1)), w1)))))) else (some ((-1), w1)))
set_option maxRecDepth 20000 in
set_option maxHeartbeats 4000000 in
theorem ev_183 {d : Nat} (hd : 3 ≤ d) {o0 : Nat} {p1 : Int32} {p2 : Int32} {w : Wd} (hT : TY w) (ho0 : ist o0 5) : sp (sh_183 o0 p1 p2 w) (fun r w' => TY w' ∧ Ev d 183 [.ref o0, .int p1, .int p2] w (cvI r) w') := by
  obtain ⟨d, rfl⟩ : ∃ d', d = d' + 1 := ⟨d - 1, by omega⟩
  refine ev_of (M := M183) zin_183 rfl (by decide) rfl (Nat.le_of_ble_eq_true rfl) (Or.inr ⟨o0, _, rfl, ho0⟩) hT ?_
  show sp _ (PP (Ev d) M183 (KR cvI) (0, [(0, .ref o0), (1, .int p1), (2, .int p2)], [], w))
  unfold sh_183
  refine s_aload rfl rfl ?_
  refine s_iload rfl rfl ?_
  refine s_callZ [.ref o0, .int p1] [] rfl rfl (Nat.le_of_ble_eq_true rfl) (ev_87 (d := d) (by omega) hT ho0) (fun r2 w1 hT1 => ?_)
  refine sp_ite (fun h3 => ?_) (fun h3 => ?_)
  · refine s_if1 rfl (zb_ne1 h3) ?_
    refine s_iload rfl rfl ?_
    refine s_const rfl ?_
    refine sp_ite (fun h4 => ?_) (fun h4 => ?_)
    · refine s_ic0 rfl (zc_ne0 h4) ?_
      refine s_aload rfl rfl ?_
      refine s_getF rfl hT1 ho0 rfl ?_
      refine s_iload rfl rfl ?_
      refine s_iald rfl hT1 (of_5_3 ho0) ?_
      exact s_retI rfl rfl hT1 (fun _ _ h => h)
    · refine s_ic1 rfl (zc_ne1 h4) ?_
      refine s_iload rfl rfl ?_
      refine s_const rfl ?_
      refine sp_ite (fun h5 => ?_) (fun h5 => ?_)
      · refine s_ic0 rfl (zc_ne0 h5) ?_
        refine s_aload rfl rfl ?_
        refine s_getF rfl hT1 ho0 rfl ?_
        refine s_iload rfl rfl ?_
        refine s_iald rfl hT1 (of_5_4 ho0) ?_
        exact s_retI rfl rfl hT1 (fun _ _ h => h)
      · refine s_ic1 rfl (zc_ne1 h5) ?_
        refine s_iload rfl rfl ?_
        refine s_const rfl ?_
        refine sp_ite (fun h6 => ?_) (fun h6 => ?_)
        · refine s_ic0 rfl (zc_ne0 h6) ?_
          refine s_aload rfl rfl ?_
          refine s_getF rfl hT1 ho0 rfl ?_
          refine s_iload rfl rfl ?_
          refine s_iald rfl hT1 (of_5_5 ho0) ?_
          refine s_goto rfl ?_
          exact s_retI rfl rfl hT1 (fun _ _ h => h)
        · refine s_ic1 rfl (zc_ne1 h6) ?_
          refine s_aload rfl rfl ?_
          refine s_getI rfl hT1 ho0 ?_
          refine s_aload rfl rfl ?_
          refine s_getF rfl hT1 ho0 rfl ?_
          refine s_iload rfl rfl ?_
          refine s_iald rfl hT1 (of_5_6 ho0) ?_
          refine s_bin rfl rfl ?_
          exact s_retI rfl rfl hT1 (fun _ _ h => h)
  · refine s_if0 rfl (zb_ne0 h3) ?_
    refine s_const rfl ?_
    exact s_retI rfl rfl hT1 (fun _ _ h => h)
/-- RugReader.tuft(II)I -/
def sh_181 (o0 : Nat) (p1 : Int32) (p2 : Int32) (w : Wd) : Option (Int32 × Wd) := der (wR w o0 2) (fun a1 => cl (sh_56 a1 p1 w) (fun r3 w2 => if r3 = true then (if 0 ≤ p2 then (if 7 < p2 then (none) else (if p2 = 0 then (der (wR w2 o0 2) (fun a8 => cl (sh_102 (o0 + 35) a8 p1 w2) (fun r10 w9 => some (r10, w9)))) else (if p2 = 1 then (cl (sh_182 (o0 + 35) p1 w2) (fun r13 w12 => some (r13, w12))) else (if p2 = 6 then (der (wR w2 o0 2) (fun a15 => cl (sh_50 a15 p1 w2) (fun r17 w16 => lt (if r17 = true then true else false : Bool) (fun z18 => some (bi z18, w16))))) else (if p2 = 7 then (der (wR w2 o0 2) (fun a22 => cl (sh_48 a22 p1 w2) (fun r24 w23 => lt (if r24 = true then true else false : Bool) (fun z25 => some (bi z25, w23))))) else (cl (sh_183 (o0 + 35) p1 p2 w2) (fun r29 w28 => some (r29, w28)))))))) else (none)) else (none)))
set_option maxRecDepth 20000 in
set_option maxHeartbeats 4000000 in
theorem ev_181 {d : Nat} (hd : 5 ≤ d) {o0 : Nat} {p1 : Int32} {p2 : Int32} {w : Wd} (hT : TY w) (ho0 : ist o0 9) : sp (sh_181 o0 p1 p2 w) (fun r w' => TY w' ∧ Ev d 181 [.ref o0, .int p1, .int p2] w (cvI r) w') := by
  obtain ⟨d, rfl⟩ : ∃ d', d = d' + 1 := ⟨d - 1, by omega⟩
  refine ev_of (M := M181) zin_181 rfl (by decide) rfl (Nat.le_of_ble_eq_true rfl) (Or.inr ⟨o0, _, rfl, ho0⟩) hT ?_
  show sp _ (PP (Ev d) M181 (KR cvI) (0, [(0, .ref o0), (1, .int p1), (2, .int p2)], [], w))
  unfold sh_181
  refine s_aload rfl rfl ?_
  refine s_getD rfl hT ho0 (by decide) rfl (fun a1 ha1 => ?_)
  refine s_iload rfl rfl ?_
  refine s_callZ [.ref a1, .int p1] [] rfl rfl (Nat.le_of_ble_eq_true rfl) (ev_56 (d := d) (by omega) hT ha1) (fun r3 w2 hT2 => ?_)
  refine sp_ite (fun h4 => ?_) (fun h4 => ?_)
  · refine s_if0 rfl (zb_eq0 h4) ?_
    refine s_iload rfl rfl ?_
    refine sp_ite (fun h5 => ?_) (fun h5 => ?_)
    · refine s_if0 rfl (zc_lt0 h5) ?_
      refine s_iload rfl rfl ?_
      refine s_const rfl ?_
      refine sp_ite (fun h6 => ?_) (fun h6 => ?_)
      · refine s_ic0 rfl (zc_le0 h6) ?_
        exact sp_none
      · refine s_ic1 rfl (zc_le1 h6) ?_
        refine s_iload rfl rfl ?_
        refine sp_ite (fun h7 => ?_) (fun h7 => ?_)
        · refine s_if0 rfl (zc_ne0 h7) ?_
          refine s_aload rfl rfl ?_
          refine s_getF rfl hT2 ho0 rfl ?_
          refine s_aload rfl rfl ?_
          refine s_getD rfl hT2 ho0 (by decide) rfl (fun a8 ha8 => ?_)
          refine s_iload rfl rfl ?_
          refine s_callI [.ref (o0 + 35), .ref a8, .int p1] [] rfl rfl (Nat.le_of_ble_eq_true rfl) (ev_102 (d := d) (by omega) hT2 (of_9_6 ho0) ha8) (fun r10 w9 hT9 => ?_)
          exact s_retI rfl rfl hT9 (fun _ _ h => h)
        · refine s_if1 rfl (zc_ne1 h7) ?_
          refine s_iload rfl rfl ?_
          refine s_const rfl ?_
          refine sp_ite (fun h11 => ?_) (fun h11 => ?_)
          · refine s_ic0 rfl (zc_ne0 h11) ?_
            refine s_aload rfl rfl ?_
            refine s_getF rfl hT2 ho0 rfl ?_
            refine s_iload rfl rfl ?_
            refine s_callI [.ref (o0 + 35), .int p1] [] rfl rfl (Nat.le_of_ble_eq_true rfl) (ev_182 (d := d) (by omega) hT2 (of_9_6 ho0)) (fun r13 w12 hT12 => ?_)
            exact s_retI rfl rfl hT12 (fun _ _ h => h)
          · refine s_ic1 rfl (zc_ne1 h11) ?_
            refine s_iload rfl rfl ?_
            refine s_const rfl ?_
            refine sp_ite (fun h14 => ?_) (fun h14 => ?_)
            · refine s_ic0 rfl (zc_ne0 h14) ?_
              refine s_aload rfl rfl ?_
              refine s_getD rfl hT2 ho0 (by decide) rfl (fun a15 ha15 => ?_)
              refine s_iload rfl rfl ?_
              refine s_callZ [.ref a15, .int p1] [] rfl rfl (Nat.le_of_ble_eq_true rfl) (ev_50 (d := d) (by omega) hT2 ha15) (fun r17 w16 hT16 => ?_)
              refine sp_lt (fun z18 hz18 => ?_)
              refine s_dia (84, [(0, .ref o0), (1, .int p1), (2, .int p2)], [.int (bi z18)], w16) ?_ (fun hk19 => ?_)
              · exact s_retI rfl rfl hT16 (fun _ _ h => h)
              · by_cases h20 : r17 = true
                · refine s_if0 rfl (zb_eq0 h20) ?_
                  refine s_const rfl ?_
                  refine s_goto rfl ?_
                  refine s_cong ?_ hk19
                  (rw [hz18, if_pos h20]; rfl)
                · refine s_if1 rfl (zb_eq1 h20) ?_
                  refine s_const rfl ?_
                  refine s_cong ?_ hk19
                  (rw [hz18, if_neg h20]; rfl)
            · refine s_ic1 rfl (zc_ne1 h14) ?_
              refine s_iload rfl rfl ?_
              refine s_const rfl ?_
              refine sp_ite (fun h21 => ?_) (fun h21 => ?_)
              · refine s_ic0 rfl (zc_ne0 h21) ?_
                refine s_aload rfl rfl ?_
                refine s_getD rfl hT2 ho0 (by decide) rfl (fun a22 ha22 => ?_)
                refine s_iload rfl rfl ?_
                refine s_callZ [.ref a22, .int p1] [] rfl rfl (Nat.le_of_ble_eq_true rfl) (ev_48 (d := d) (by omega) hT2 ha22) (fun r24 w23 hT23 => ?_)
                refine sp_lt (fun z25 hz25 => ?_)
                refine s_dia (107, [(0, .ref o0), (1, .int p1), (2, .int p2)], [.int (bi z25)], w23) ?_ (fun hk26 => ?_)
                · exact s_retI rfl rfl hT23 (fun _ _ h => h)
                · by_cases h27 : r24 = true
                  · refine s_if0 rfl (zb_eq0 h27) ?_
                    refine s_const rfl ?_
                    refine s_goto rfl ?_
                    refine s_cong ?_ hk26
                    (rw [hz25, if_pos h27]; rfl)
                  · refine s_if1 rfl (zb_eq1 h27) ?_
                    refine s_const rfl ?_
                    refine s_cong ?_ hk26
                    (rw [hz25, if_neg h27]; rfl)
              · refine s_ic1 rfl (zc_ne1 h21) ?_
                refine s_aload rfl rfl ?_
                refine s_getF rfl hT2 ho0 rfl ?_
                refine s_iload rfl rfl ?_
                refine s_iload rfl rfl ?_
                refine s_callI [.ref (o0 + 35), .int p1, .int p2] [] rfl rfl (Nat.le_of_ble_eq_true rfl) (ev_183 (d := d) (by omega) hT2 (of_9_6 ho0)) (fun r29 w28 hT28 => ?_)
                exact s_retI rfl rfl hT28 (fun _ _ h => h)
    · refine s_if1 rfl (zc_lt1 h5) ?_
      exact sp_none
  · refine s_if1 rfl (zb_eq1 h4) ?_
    exact sp_none
