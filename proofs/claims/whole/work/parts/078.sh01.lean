/-! printed by program (wip/whole/gen/sh.py): the methods as programs over worlds, and that the small machine does what they say -/
/-- RugReader$House.isWall(I)Z -/
def sh_50 (o0 : Nat) (p1 : Int32) (w : Wd) : Option (Bool × Wd) := if 0 ≤ p1 then (if p1 < 144 then (gd (ib p1 144) (if wI w (o0 + 8) (ix p1) = 0 then (some (false, w)) else (some (true, w)))) else (some (false, w))) else (some (false, w))
set_option maxRecDepth 20000 in
set_option maxHeartbeats 4000000 in
theorem ev_50 {d : Nat} (hd : 1 ≤ d) {o0 : Nat} {p1 : Int32} {w : Wd} (hT : TY w) (ho0 : ist o0 1) : sp (sh_50 o0 p1 w) (fun r w' => TY w' ∧ Ev d 50 [.ref o0, .int p1] w (cvZ r) w') := by
  obtain ⟨d, rfl⟩ : ∃ d', d = d' + 1 := ⟨d - 1, by omega⟩
  refine ev_of (M := M50) zin_50 rfl (by decide) rfl (Nat.le_of_ble_eq_true rfl) (Or.inr ⟨o0, _, rfl, ho0⟩) hT ?_
  show sp _ (PP (Ev d) M50 (KR cvZ) (0, [(0, .ref o0), (1, .int p1)], [], w))
  unfold sh_50
  refine s_iload rfl rfl ?_
  refine sp_ite (fun h1 => ?_) (fun h1 => ?_)
  · refine s_if0 rfl (zc_lt0 h1) ?_
    refine s_iload rfl rfl ?_
    refine s_const rfl ?_
    refine sp_ite (fun h2 => ?_) (fun h2 => ?_)
    · refine s_ic0 rfl (zc_ge0 h2) ?_
      refine s_aload rfl rfl ?_
      refine s_getF rfl hT ho0 rfl ?_
      refine s_iload rfl rfl ?_
      refine s_bald rfl hT (of_1_14 ho0) (Or.inr rfl) ?_
      refine sp_ite (fun h3 => ?_) (fun h3 => ?_)
      · refine s_if1 rfl (zc_eq1 h3) ?_
        refine s_const rfl ?_
        exact s_retZ (z := false) rfl rfl hT (fun _ _ h => h)
      · refine s_if0 rfl (zc_eq0 h3) ?_
        refine s_const rfl ?_
        refine s_goto rfl ?_
        exact s_retZ (z := true) rfl rfl hT (fun _ _ h => h)
    · refine s_ic1 rfl (zc_ge1 h2) ?_
      refine s_const rfl ?_
      exact s_retZ (z := false) rfl rfl hT (fun _ _ h => h)
  · refine s_if1 rfl (zc_lt1 h1) ?_
    refine s_const rfl ?_
    exact s_retZ (z := false) rfl rfl hT (fun _ _ h => h)
/-- RugReader$House.lengthen(II)V -/
def sh_51 (o0 : Nat) (p1 : Int32) (p2 : Int32) (w : Wd) : Option (Unit × Wd) := if 0 ≤ p1 then (if p1 < 6 then (gd (ib p1 6) (if 0 ≤ wI w (o0 + 6) (ix p1) then (gd (ib p1 6) (if wI w (o0 + 6) (ix p1) < 41 then (gd (ib p1 6) (gd (ib ((p1 * 41) + (wI w (o0 + 6) (ix p1))) 246) (stI w (o0 + 7) (ix ((p1 * 41) + (wI w (o0 + 6) (ix p1)))) p2 (fun w5 => gd (ib p1 6) (gd (ib p1 6) (stI w5 (o0 + 6) (ix p1) ((wI w5 (o0 + 6) (ix p1)) + 1) (fun w6 => some ((), w6)))))))) else (some ((), w)))) else (some ((), w)))) else (some ((), w))) else (some ((), w))
set_option maxRecDepth 20000 in
set_option maxHeartbeats 4000000 in
theorem ev_51 {d : Nat} (hd : 1 ≤ d) {o0 : Nat} {p1 : Int32} {p2 : Int32} {w : Wd} (hT : TY w) (ho0 : ist o0 1) : sp (sh_51 o0 p1 p2 w) (fun r w' => TY w' ∧ Ev d 51 [.ref o0, .int p1, .int p2] w (cvV r) w') := by
  obtain ⟨d, rfl⟩ : ∃ d', d = d' + 1 := ⟨d - 1, by omega⟩
  refine ev_of (M := M51) zin_51 rfl (by decide) rfl (Nat.le_of_ble_eq_true rfl) (Or.inr ⟨o0, _, rfl, ho0⟩) hT ?_
  show sp _ (PP (Ev d) M51 (KR cvV) (0, [(0, .ref o0), (1, .int p1), (2, .int p2)], [], w))
  unfold sh_51
  refine s_iload rfl rfl ?_
  refine sp_ite (fun h1 => ?_) (fun h1 => ?_)
  · refine s_if0 rfl (zc_lt0 h1) ?_
    refine s_iload rfl rfl ?_
    refine s_const rfl ?_
    refine sp_ite (fun h2 => ?_) (fun h2 => ?_)
    · refine s_ic0 rfl (zc_ge0 h2) ?_
      refine s_aload rfl rfl ?_
      refine s_getF rfl hT ho0 rfl ?_
      refine s_iload rfl rfl ?_
      refine s_iald rfl hT (of_1_12 ho0) ?_
      refine sp_ite (fun h3 => ?_) (fun h3 => ?_)
      · refine s_if0 rfl (zc_lt0 h3) ?_
        refine s_aload rfl rfl ?_
        refine s_getF rfl hT ho0 rfl ?_
        refine s_iload rfl rfl ?_
        refine s_iald rfl hT (of_1_12 ho0) ?_
        refine s_const rfl ?_
        refine sp_ite (fun h4 => ?_) (fun h4 => ?_)
        · refine s_ic0 rfl (zc_ge0 h4) ?_
          refine s_aload rfl rfl ?_
          refine s_getF rfl hT ho0 rfl ?_
          refine s_iload rfl rfl ?_
          refine s_const rfl ?_
          refine s_bin rfl rfl ?_
          refine s_aload rfl rfl ?_
          refine s_getF rfl hT ho0 rfl ?_
          refine s_iload rfl rfl ?_
          refine s_iald rfl hT (of_1_12 ho0) ?_
          refine s_bin rfl rfl ?_
          refine s_iload rfl rfl ?_
          refine s_iast rfl hT (of_1_13 ho0) (fun w5 hT5 => ?_)
          refine s_aload rfl rfl ?_
          refine s_getF rfl hT5 ho0 rfl ?_
          refine s_iload rfl rfl ?_
          refine s_dup2 rfl ⟨rfl, rfl⟩ ?_
          refine s_iald rfl hT5 (of_1_12 ho0) ?_
          refine s_const rfl ?_
          refine s_bin rfl rfl ?_
          refine s_iast rfl hT5 (of_1_12 ho0) (fun w6 hT6 => ?_)
          exact s_retV rfl rfl hT6 (fun _ _ h => h)
        · refine s_ic1 rfl (zc_ge1 h4) ?_
          exact s_retV rfl rfl hT (fun _ _ h => h)
      · refine s_if1 rfl (zc_lt1 h3) ?_
        exact s_retV rfl rfl hT (fun _ _ h => h)
    · refine s_ic1 rfl (zc_ge1 h2) ?_
      exact s_retV rfl rfl hT (fun _ _ h => h)
  · refine s_if1 rfl (zc_lt1 h1) ?_
    exact s_retV rfl rfl hT (fun _ _ h => h)
/-- RugReader$Tape.dirHere()I -/
def sh_53 (o0 : Nat) (w : Wd) : Option (Int32 × Wd) := cl (sh_33 o0 w) (fun r2 w1 => nul r2 (some ((-1), w1)) (fun a3 => gd (decide (1010 ≤ a3 ∧ a3 < 1030)) (some (zwd (a3 - 1010), w1))))
set_option maxRecDepth 20000 in
set_option maxHeartbeats 4000000 in
theorem ev_53 {d : Nat} (hd : 3 ≤ d) {o0 : Nat} {w : Wd} (hT : TY w) (ho0 : ist o0 7) : sp (sh_53 o0 w) (fun r w' => TY w' ∧ Ev d 53 [.ref o0] w (cvI r) w') := by
  obtain ⟨d, rfl⟩ : ∃ d', d = d' + 1 := ⟨d - 1, by omega⟩
  refine ev_of (M := M53) zin_53 rfl (by decide) rfl (Nat.le_of_ble_eq_true rfl) (Or.inr ⟨o0, _, rfl, ho0⟩) hT ?_
  show sp _ (PP (Ev d) M53 (KR cvI) (0, [(0, .ref o0)], [], w))
  unfold sh_53
  refine s_aload rfl rfl ?_
  refine s_callR [.ref o0] [] rfl rfl (Nat.le_of_ble_eq_true rfl) (ev_33 (d := d) (by omega) hT ho0) (fun r2 w1 hT1 => ?_)
  refine s_astoreRF (x := r2) [(1, va_rf r2)] rfl (subl_c rfl (subl_n)) ?_
  refine s_aloadR (x := r2) rfl rfl ?_
  refine sp_nul (fun h4 => ?_) (fun a3 h4 => ?_)
  · subst h4
    show sp _ (PP _ _ _ (6, [(1, .null)], [.null], w1))
    refine s_nonnull0 rfl ?_
    refine s_const rfl ?_
    refine s_goto rfl ?_
    exact s_retI rfl rfl hT1 (fun _ _ h => h)
  · subst h4
    show sp _ (PP _ _ _ (6, [(1, .ref a3)], [.ref a3], w1))
    refine s_nonnull1 rfl ?_
    refine s_aload rfl rfl ?_
    refine s_getW1 rfl ?_
    exact s_retI rfl rfl hT1 (fun _ _ h => h)
/-- RugReader$House.onRug(I)Z -/
def sh_56 (o0 : Nat) (p1 : Int32) (w : Wd) : Option (Bool × Wd) := if 0 ≤ p1 then (if p1 < 144 then (if zrem p1 12 < wI w o0 0 then (if p1 / 12 < wI w o0 1 then (some (true, w)) else (some (false, w))) else (some (false, w))) else (some (false, w))) else (some (false, w))
set_option maxRecDepth 20000 in
set_option maxHeartbeats 4000000 in
theorem ev_56 {d : Nat} (hd : 1 ≤ d) {o0 : Nat} {p1 : Int32} {w : Wd} (hT : TY w) (ho0 : ist o0 1) : sp (sh_56 o0 p1 w) (fun r w' => TY w' ∧ Ev d 56 [.ref o0, .int p1] w (cvZ r) w') := by
  obtain ⟨d, rfl⟩ : ∃ d', d = d' + 1 := ⟨d - 1, by omega⟩
  refine ev_of (M := M56) zin_56 rfl (by decide) rfl (Nat.le_of_ble_eq_true rfl) (Or.inr ⟨o0, _, rfl, ho0⟩) hT ?_
  show sp _ (PP (Ev d) M56 (KR cvZ) (0, [(0, .ref o0), (1, .int p1)], [], w))
  unfold sh_56
  refine s_iload rfl rfl ?_
  refine sp_ite (fun h1 => ?_) (fun h1 => ?_)
  · refine s_if0 rfl (zc_lt0 h1) ?_
    refine s_iload rfl rfl ?_
    refine s_const rfl ?_
    refine sp_ite (fun h2 => ?_) (fun h2 => ?_)
    · refine s_ic0 rfl (zc_ge0 h2) ?_
      refine s_iload rfl rfl ?_
      refine s_const rfl ?_
      refine s_rem rfl (by decide) ?_
      refine s_aload rfl rfl ?_
      refine s_getI rfl hT ho0 ?_
      refine sp_ite (fun h3 => ?_) (fun h3 => ?_)
      · refine s_ic0 rfl (zc_ge0 h3) ?_
        refine s_iload rfl rfl ?_
        refine s_const rfl ?_
        refine s_div rfl (by decide) ?_
        refine s_aload rfl rfl ?_
        refine s_getI rfl hT ho0 ?_
        refine sp_ite (fun h4 => ?_) (fun h4 => ?_)
        · refine s_ic0 rfl (zc_ge0 h4) ?_
          refine s_const rfl ?_
          refine s_goto rfl ?_
          exact s_retZ (z := true) rfl rfl hT (fun _ _ h => h)
        · refine s_ic1 rfl (zc_ge1 h4) ?_
          refine s_const rfl ?_
          exact s_retZ (z := false) rfl rfl hT (fun _ _ h => h)
      · refine s_ic1 rfl (zc_ge1 h3) ?_
        refine s_const rfl ?_
        exact s_retZ (z := false) rfl rfl hT (fun _ _ h => h)
    · refine s_ic1 rfl (zc_ge1 h2) ?_
      refine s_const rfl ?_
      exact s_retZ (z := false) rfl rfl hT (fun _ _ h => h)
  · refine s_if1 rfl (zc_lt1 h1) ?_
    refine s_const rfl ?_
    exact s_retZ (z := false) rfl rfl hT (fun _ _ h => h)
/-- RugReader$House.stepFrom(II)I -/
def sh_55 (o0 : Nat) (p1 : Int32) (p2 : Int32) (w : Wd) : Option (Int32 × Wd) := cl (sh_56 o0 p1 w) (fun r2 w1 => if r2 = true then (lt (if p2 = 1 then 1 else (if p2 = 3 then (-1) else 0) : Int32) (fun z4 => lt ((zrem p1 12) + z4 : Int32) (fun v3_5 => lt (if p2 = 2 then 1 else (if p2 = 0 then (-1) else 0) : Int32) (fun z6 => lt ((p1 / 12) + z6 : Int32) (fun v4_7 => lt (if 0 ≤ v3_5 then (if v3_5 < wI w1 o0 0 then (if 0 ≤ v4_7 then (if v4_7 < wI w1 o0 1 then ((v4_7 * 12) + v3_5) else (-1)) else (-1)) else (-1)) else (-1) : Int32) (fun z8 => some (z8, w1))))))) else (some ((-1), w1)))
set_option maxRecDepth 20000 in
set_option maxHeartbeats 4000000 in
theorem ev_55 {d : Nat} (hd : 2 ≤ d) {o0 : Nat} {p1 : Int32} {p2 : Int32} {w : Wd} (hT : TY w) (ho0 : ist o0 1) : sp (sh_55 o0 p1 p2 w) (fun r w' => TY w' ∧ Ev d 55 [.ref o0, .int p1, .int p2] w (cvI r) w') := by
  obtain ⟨d, rfl⟩ : ∃ d', d = d' + 1 := ⟨d - 1, by omega⟩
  refine ev_of (M := M55) zin_55 rfl (by decide) rfl (Nat.le_of_ble_eq_true rfl) (Or.inr ⟨o0, _, rfl, ho0⟩) hT ?_
  show sp _ (PP (Ev d) M55 (KR cvI) (0, [(0, .ref o0), (1, .int p1), (2, .int p2)], [], w))
  unfold sh_55
  refine s_aload rfl rfl ?_
  refine s_iload rfl rfl ?_
  refine s_callZ [.ref o0, .int p1] [] rfl rfl (Nat.le_of_ble_eq_true rfl) (ev_56 (d := d) (by omega) hT ho0) (fun r2 w1 hT1 => ?_)
  refine sp_ite (fun h3 => ?_) (fun h3 => ?_)
  · refine s_if1 rfl (zb_ne1 h3) ?_
    refine s_iload rfl rfl ?_
    refine s_const rfl ?_
    refine s_rem rfl (by decide) ?_
    refine s_iload rfl rfl ?_
    refine s_const rfl ?_
    refine sp_lt (fun z4 hz4 => ?_)
    refine s_dia (33, [(0, .ref o0), (1, .int p1), (2, .int p2)], [.int z4, .int (zrem p1 12)], w1) ?_ (fun hk17 => ?_)
    · refine s_bin rfl rfl ?_
      refine s_nmI (fun v3_5 => ?_)
      refine s_istoreF [(0, .ref o0), (1, .int p1), (2, .int p2), (3, .int v3_5)] rfl (subl_c rfl (subl_c rfl (subl_c rfl (subl_c rfl (subl_n))))) ?_
      refine s_iload rfl rfl ?_
      refine s_const rfl ?_
      refine s_div rfl (by decide) ?_
      refine s_iload rfl rfl ?_
      refine s_const rfl ?_
      refine sp_lt (fun z6 hz6 => ?_)
      refine s_dia (57, [(0, .ref o0), (1, .int p1), (2, .int p2), (3, .int v3_5)], [.int z6, .int (p1 / 12)], w1) ?_ (fun hk14 => ?_)
      · refine s_bin rfl rfl ?_
        refine s_nmI (fun v4_7 => ?_)
        refine s_istoreF [(0, .ref o0), (3, .int v3_5), (4, .int v4_7)] rfl (subl_c rfl (subl_c rfl (subl_c rfl (subl_n)))) ?_
        refine s_iload rfl rfl ?_
        refine sp_lt (fun z8 hz8 => ?_)
        refine s_dia (97, [(0, .ref o0), (3, .int v3_5), (4, .int v4_7)], [.int z8], w1) ?_ (fun hk9 => ?_)
        · exact s_retI rfl rfl hT1 (fun _ _ h => h)
        · by_cases h10 : 0 ≤ v3_5
          · refine s_if0 rfl (zc_lt0 h10) ?_
            refine s_iload rfl rfl ?_
            refine s_aload rfl rfl ?_
            refine s_getI rfl hT1 ho0 ?_
            by_cases h11 : v3_5 < wI w1 o0 0
            · refine s_ic0 rfl (zc_ge0 h11) ?_
              refine s_iload rfl rfl ?_
              by_cases h12 : 0 ≤ v4_7
              · refine s_if0 rfl (zc_lt0 h12) ?_
                refine s_iload rfl rfl ?_
                refine s_aload rfl rfl ?_
                refine s_getI rfl hT1 ho0 ?_
                by_cases h13 : v4_7 < wI w1 o0 1
                · refine s_ic0 rfl (zc_ge0 h13) ?_
                  refine s_iload rfl rfl ?_
                  refine s_const rfl ?_
                  refine s_bin rfl rfl ?_
                  refine s_iload rfl rfl ?_
                  refine s_bin rfl rfl ?_
                  refine s_goto rfl ?_
                  refine s_cong ?_ hk9
                  (rw [hz8, if_pos h10, if_pos h11, if_pos h12, if_pos h13])
                · refine s_ic1 rfl (zc_ge1 h13) ?_
                  refine s_const rfl ?_
                  refine s_cong ?_ hk9
                  (rw [hz8, if_pos h10, if_pos h11, if_pos h12, if_neg h13])
              · refine s_if1 rfl (zc_lt1 h12) ?_
                refine s_const rfl ?_
                refine s_cong ?_ hk9
                (rw [hz8, if_pos h10, if_pos h11, if_neg h12])
            · refine s_ic1 rfl (zc_ge1 h11) ?_
              refine s_const rfl ?_
              refine s_cong ?_ hk9
              (rw [hz8, if_pos h10, if_neg h11])
          · refine s_if1 rfl (zc_lt1 h10) ?_
            refine s_const rfl ?_
            refine s_cong ?_ hk9
            (rw [hz8, if_neg h10])
      · by_cases h15 : p2 = 2
        · refine s_ic0 rfl (zc_ne0 h15) ?_
          refine s_const rfl ?_
          refine s_goto rfl ?_
          refine s_cong ?_ hk14
          (rw [hz6, if_pos h15])
        · refine s_ic1 rfl (zc_ne1 h15) ?_
          refine s_iload rfl rfl ?_
          by_cases h16 : p2 = 0
          · refine s_if0 rfl (zc_ne0 h16) ?_
            refine s_const rfl ?_
            refine s_goto rfl ?_
            refine s_cong ?_ hk14
            (rw [hz6, if_neg h15, if_pos h16])
          · refine s_if1 rfl (zc_ne1 h16) ?_
            refine s_const rfl ?_
            refine s_cong ?_ hk14
            (rw [hz6, if_neg h15, if_neg h16])
    · by_cases h18 : p2 = 1
      · refine s_ic0 rfl (zc_ne0 h18) ?_
        refine s_const rfl ?_
        refine s_goto rfl ?_
        refine s_cong ?_ hk17
        (rw [hz4, if_pos h18])
      · refine s_ic1 rfl (zc_ne1 h18) ?_
        refine s_iload rfl rfl ?_
        refine s_const rfl ?_
        by_cases h19 : p2 = 3
        · refine s_ic0 rfl (zc_ne0 h19) ?_
          refine s_const rfl ?_
          refine s_goto rfl ?_
          refine s_cong ?_ hk17
          (rw [hz4, if_neg h18, if_pos h19])
        · refine s_ic1 rfl (zc_ne1 h19) ?_
          refine s_const rfl ?_
          refine s_cong ?_ hk17
          (rw [hz4, if_neg h18, if_neg h19])
  · refine s_if0 rfl (zb_ne0 h3) ?_
    refine s_const rfl ?_
    exact s_retI rfl rfl hT1 (fun _ _ h => h)
/-- RugReader$House.reach(III)I -/
def sh_54 (o0 : Nat) (p1 : Int32) (p2 : Int32) (p3 : Int32) (w : Wd) : Option (Int32 × Wd) := itM (fun (s14 : Int32 × Int32) (w4 : Wd) => match s14 with | (v4_1, v5_2) => if v5_2 < p3 then (if v4_1 = (-1) then (some (.inr (v4_1), w4)) else (cl (sh_55 o0 v4_1 p2 w4) (fun r8 w7 => cl (sh_50 o0 r8 w7) (fun r10 w9 => if r10 = true then (lt (v5_2 + 1 : Int32) (fun v5_12 => some (.inl ((-1), v5_12), w9))) else (lt (v5_2 + 1 : Int32) (fun v5_13 => some (.inl (r8, v5_13), w9))))))) else (some (.inr (v4_1), w4))) FU (p1, 0) w
set_option maxRecDepth 20000 in
set_option maxHeartbeats 4000000 in
theorem ev_54 {d : Nat} (hd : 3 ≤ d) {o0 : Nat} {p1 : Int32} {p2 : Int32} {p3 : Int32} {w : Wd} (hT : TY w) (ho0 : ist o0 1) : sp (sh_54 o0 p1 p2 p3 w) (fun r w' => TY w' ∧ Ev d 54 [.ref o0, .int p1, .int p2, .int p3] w (cvI r) w') := by
  obtain ⟨d, rfl⟩ : ∃ d', d = d' + 1 := ⟨d - 1, by omega⟩
  refine ev_of (M := M54) zin_54 rfl (by decide) rfl (Nat.le_of_ble_eq_true rfl) (Or.inr ⟨o0, _, rfl, ho0⟩) hT ?_
  show sp _ (PP (Ev d) M54 (KR cvI) (0, [(0, .ref o0), (1, .int p1), (2, .int p2), (3, .int p3)], [], w))
  unfold sh_54
  refine s_iload rfl rfl ?_
  refine s_istoreF [(0, .ref o0), (2, .int p2), (3, .int p3), (4, .int p1)] rfl (subl_c rfl (subl_c rfl (subl_c rfl (subl_c rfl (subl_n))))) ?_
  refine s_const rfl ?_
  refine s_istoreF [(0, .ref o0), (2, .int p2), (3, .int p3), (4, .int p1), (5, .int 0)] rfl (subl_c rfl (subl_c rfl (subl_c rfl (subl_c rfl (subl_c rfl (subl_n)))))) ?_
  let lvL3 : Int32 × Int32 → List (Nat × Value) := fun s14 => [(0, .ref o0), (2, .int p2), (3, .int p3), (4, .int (s14.1)), (5, .int (s14.2))]
  refine s_loop lvL3 (subl_c rfl (subl_c rfl (subl_c rfl (subl_c rfl (subl_c rfl (subl_n)))))) hT (fun s14 w4 hT4 => ?_)
  obtain ⟨v4_1, v5_2⟩ := s14
  show sp _ (PP _ _ _ (6, [(0, .ref o0), (2, .int p2), (3, .int p3), (4, .int v4_1), (5, .int v5_2)], [], w4))
  refine s_iload rfl rfl ?_
  refine s_iload rfl rfl ?_
  refine sp_ite (fun h5 => ?_) (fun h5 => ?_)
  · refine s_ic0 rfl (zc_ge0 h5) ?_
    refine s_iload rfl rfl ?_
    refine s_const rfl ?_
    refine sp_ite (fun h6 => ?_) (fun h6 => ?_)
    · refine s_ic1 rfl (zc_eq1 h6) ?_
      refine s_iload rfl rfl ?_
      exact s_retI rfl rfl hT4 (fun _ _ h => h)
    · refine s_ic0 rfl (zc_eq0 h6) ?_
      refine s_aload rfl rfl ?_
      refine s_iload rfl rfl ?_
      refine s_iload rfl rfl ?_
      refine s_callI [.ref o0, .int v4_1, .int p2] [] rfl rfl (Nat.le_of_ble_eq_true rfl) (ev_55 (d := d) (by omega) hT4 ho0) (fun r8 w7 hT7 => ?_)
      refine s_istoreF [(0, .ref o0), (2, .int p2), (3, .int p3), (4, .int r8), (5, .int v5_2)] rfl (subl_c rfl (subl_c rfl (subl_c rfl (subl_c rfl (subl_c rfl (subl_n)))))) ?_
      refine s_aload rfl rfl ?_
      refine s_iload rfl rfl ?_
      refine s_callZ [.ref o0, .int r8] [] rfl rfl (Nat.le_of_ble_eq_true rfl) (ev_50 (d := d) (by omega) hT7 ho0) (fun r10 w9 hT9 => ?_)
      refine sp_ite (fun h11 => ?_) (fun h11 => ?_)
      · refine s_if0 rfl (zb_eq0 h11) ?_
        refine s_const rfl ?_
        refine s_istoreF [(0, .ref o0), (2, .int p2), (3, .int p3), (4, .int (-1)), (5, .int v5_2)] rfl (subl_c rfl (subl_c rfl (subl_c rfl (subl_c rfl (subl_c rfl (subl_n)))))) ?_
        refine s_iincF (fun v5_12 => [(0, .ref o0), (2, .int p2), (3, .int p3), (4, .int (-1)), (5, .int v5_12)]) rfl rfl (fun _ => subl_c rfl (subl_c rfl (subl_c rfl (subl_c rfl (subl_c rfl (subl_n)))))) (fun v5_12 => ?_)
        refine s_goto rfl ?_
        exact s_back (lvL := lvL3) (s' := ((-1), v5_12)) (subl_c rfl (subl_c rfl (subl_c rfl (subl_c rfl (subl_c rfl (subl_n)))))) hT9 (fun _ _ h => h)
      · refine s_if1 rfl (zb_eq1 h11) ?_
        refine s_iincF (fun v5_13 => [(0, .ref o0), (2, .int p2), (3, .int p3), (4, .int r8), (5, .int v5_13)]) rfl rfl (fun _ => subl_c rfl (subl_c rfl (subl_c rfl (subl_c rfl (subl_c rfl (subl_n)))))) (fun v5_13 => ?_)
        refine s_goto rfl ?_
        exact s_back (lvL := lvL3) (s' := (r8, v5_13)) (subl_c rfl (subl_c rfl (subl_c rfl (subl_c rfl (subl_c rfl (subl_n)))))) hT9 (fun _ _ h => h)
  · refine s_ic1 rfl (zc_ge1 h5) ?_
    refine s_iload rfl rfl ?_
    exact s_retI rfl rfl hT4 (fun _ _ h => h)
/-- RugReader$HouseText.takeSteps(LRugReader$House;II)Z -/
def sh_52 (o0 : Nat) (o1 : Nat) (p2 : Int32) (p3 : Int32) (w : Wd) : Option (Bool × Wd) := itM (fun (s40 : Int32 × Int32 × Int32) (w5 : Wd) => match s40 with | (v4_1, v5_2, v6_3) => if v6_3 ≤ 40 then (cl (sh_53 1 w5) (fun r8 w7 => if r8 = (-1) then (some (.inr (true), w7)) else (cl (sh_53 1 w7) (fun r11 w10 => cl (sh_37 1 w10) (fun _ w12 => cl (sh_39 1 1 11 w12) (fun r15 w14 => if r15 = (-1) then (some (.inr (false), w14)) else (lt (v5_2 + r15 : Int32) (fun v5_17 => if 40 < v5_17 then (cl (sh_36 1 4 w14) (fun r20 w19 => some (.inr (r20), w19))) else (cl (sh_54 o1 v4_1 r11 r15 w14) (fun r22 w21 => if r22 = (-1) then (cl (sh_36 1 5 w21) (fun r25 w24 => some (.inr (r25), w24))) else (itM (fun (s39 : Int32 × Int32) (w29 : Wd) => match s39 with | (v4_26, v9_27) => if v9_27 < r15 then (cl (sh_55 o1 v4_26 r11 w29) (fun r32 w31 => cl (sh_51 o1 p2 r32 w31) (fun _ w33 => lt (v9_27 + 1 : Int32) (fun v9_35 => some (.inl (r32, v9_35), w33))))) else (cl (sh_37 1 w29) (fun _ w36 => lt (v6_3 + 1 : Int32) (fun v6_38 => some (.inr (.inl (v4_26, v5_17, v6_38)), w36))))) FU (v4_1, 0) w21))))))))))) else (some (.inr (true), w5))) FU (p3, 0, 0) w
set_option maxRecDepth 20000 in
set_option maxHeartbeats 4000000 in
theorem ev_52 {d : Nat} (hd : 4 ≤ d) {o0 : Nat} {o1 : Nat} {p2 : Int32} {p3 : Int32} {w : Wd} (hT : TY w) (ho0 : ist o0 2) (ho1 : ist o1 1) : sp (sh_52 o0 o1 p2 p3 w) (fun r w' => TY w' ∧ Ev d 52 [.ref o0, .ref o1, .int p2, .int p3] w (cvZ r) w') := by
  obtain ⟨d, rfl⟩ : ∃ d', d = d' + 1 := ⟨d - 1, by omega⟩
  refine ev_of (M := M52) zin_52 rfl (by decide) rfl (Nat.le_of_ble_eq_true rfl) (Or.inr ⟨o0, _, rfl, ho0⟩) hT ?_
  show sp _ (PP (Ev d) M52 (KR cvZ) (0, [(0, .ref o0), (1, .ref o1), (2, .int p2), (3, .int p3)], [], w))
  unfold sh_52
  refine s_iload rfl rfl ?_
  refine s_istoreF [(0, .ref o0), (1, .ref o1), (2, .int p2), (4, .int p3)] rfl (subl_c rfl (subl_c rfl (subl_c rfl (subl_c rfl (subl_n))))) ?_
  refine s_const rfl ?_
  refine s_istoreF [(0, .ref o0), (1, .ref o1), (2, .int p2), (4, .int p3), (5, .int 0)] rfl (subl_c rfl (subl_c rfl (subl_c rfl (subl_c rfl (subl_c rfl (subl_n)))))) ?_
  refine s_const rfl ?_
  refine s_istoreF [(0, .ref o0), (1, .ref o1), (2, .int p2), (4, .int p3), (5, .int 0), (6, .int 0)] rfl (subl_c rfl (subl_c rfl (subl_c rfl (subl_c rfl (subl_c rfl (subl_c rfl (subl_n))))))) ?_
  let lvL4 : Int32 × Int32 × Int32 → List (Nat × Value) := fun s40 => [(0, .ref o0), (1, .ref o1), (2, .int p2), (4, .int (s40.1)), (5, .int (s40.2.1)), (6, .int (s40.2.2))]
  refine s_loop lvL4 (subl_c rfl (subl_c rfl (subl_c rfl (subl_c rfl (subl_c rfl (subl_c rfl (subl_n))))))) hT (fun s40 w5 hT5 => ?_)
  obtain ⟨v4_1, v5_2, v6_3⟩ := s40
  show sp _ (PP _ _ _ (9, [(0, .ref o0), (1, .ref o1), (2, .int p2), (4, .int v4_1), (5, .int v5_2), (6, .int v6_3)], [], w5))
  refine s_iload rfl rfl ?_
  refine s_const rfl ?_
  refine sp_ite (fun h6 => ?_) (fun h6 => ?_)
  · refine s_ic0 rfl (zc_gt0 h6) ?_
    refine s_aload rfl rfl ?_
    refine s_get6 rfl hT5 ho0 ?_
    refine s_callI [.ref 1] [] rfl rfl (Nat.le_of_ble_eq_true rfl) (ev_53 (d := d) (by omega) hT5 ist_1) (fun r8 w7 hT7 => ?_)
    refine s_const rfl ?_
    refine sp_ite (fun h9 => ?_) (fun h9 => ?_)
    · refine s_ic1 rfl (zc_eq1 h9) ?_
      refine s_const rfl ?_
      exact s_retZ (z := true) rfl rfl hT7 (fun _ _ h => h)
    · refine s_ic0 rfl (zc_eq0 h9) ?_
      refine s_aload rfl rfl ?_
      refine s_get6 rfl hT7 ho0 ?_
      refine s_callI [.ref 1] [] rfl rfl (Nat.le_of_ble_eq_true rfl) (ev_53 (d := d) (by omega) hT7 ist_1) (fun r11 w10 hT10 => ?_)
      refine s_istoreF [(0, .ref o0), (1, .ref o1), (2, .int p2), (4, .int v4_1), (5, .int v5_2), (6, .int v6_3), (7, .int r11)] rfl (subl_c rfl (subl_c rfl (subl_c rfl (subl_c rfl (subl_c rfl (subl_c rfl (subl_c rfl (subl_n)))))))) ?_
      refine s_aload rfl rfl ?_
      refine s_get6 rfl hT10 ho0 ?_
      refine s_callV [.ref 1] [] rfl rfl (Nat.le_of_ble_eq_true rfl) (ev_37 (d := d) (by omega) hT10 ist_1) (fun _ w12 hT12 => ?_)
      refine s_aload rfl rfl ?_
      refine s_get6 rfl hT12 ho0 ?_
      refine s_const rfl ?_
      refine s_const rfl ?_
      refine s_callI [.ref 1, .int 1, .int 11] [] rfl rfl (Nat.le_of_ble_eq_true rfl) (ev_39 (d := d) (by omega) hT12 ist_1) (fun r15 w14 hT14 => ?_)
      refine s_istoreF [(0, .ref o0), (1, .ref o1), (2, .int p2), (4, .int v4_1), (5, .int v5_2), (6, .int v6_3), (7, .int r11), (8, .int r15)] rfl (subl_c rfl (subl_c rfl (subl_c rfl (subl_c rfl (subl_c rfl (subl_c rfl (subl_c rfl (subl_c rfl (subl_n))))))))) ?_
      refine s_iload rfl rfl ?_
      refine s_const rfl ?_
      refine sp_ite (fun h16 => ?_) (fun h16 => ?_)
      · refine s_ic0 rfl (zc_ne0 h16) ?_
        refine s_const rfl ?_
        exact s_retZ (z := false) rfl rfl hT14 (fun _ _ h => h)
      · refine s_ic1 rfl (zc_ne1 h16) ?_
        refine s_iload rfl rfl ?_
        refine s_iload rfl rfl ?_
        refine s_bin rfl rfl ?_
        refine s_nmI (fun v5_17 => ?_)
        refine s_istoreF [(0, .ref o0), (1, .ref o1), (2, .int p2), (4, .int v4_1), (5, .int v5_17), (6, .int v6_3), (7, .int r11), (8, .int r15)] rfl (subl_c rfl (subl_c rfl (subl_c rfl (subl_c rfl (subl_c rfl (subl_c rfl (subl_c rfl (subl_c rfl (subl_n))))))))) ?_
        refine s_iload rfl rfl ?_
        refine s_const rfl ?_
        refine sp_ite (fun h18 => ?_) (fun h18 => ?_)
        · refine s_ic0 rfl (zc_le0 h18) ?_
          refine s_aload rfl rfl ?_
          refine s_get6 rfl hT14 ho0 ?_
          refine s_const rfl ?_
          refine s_callZ [.ref 1, .int 4] [] rfl rfl (Nat.le_of_ble_eq_true rfl) (ev_36 (d := d) (by omega) hT14 ist_1) (fun r20 w19 hT19 => ?_)
          exact s_retZ (z := r20) rfl rfl hT19 (fun _ _ h => h)
        · refine s_ic1 rfl (zc_le1 h18) ?_
          refine s_aload rfl rfl ?_
          refine s_iload rfl rfl ?_
          refine s_iload rfl rfl ?_
          refine s_iload rfl rfl ?_
          refine s_callI [.ref o1, .int v4_1, .int r11, .int r15] [] rfl rfl (Nat.le_of_ble_eq_true rfl) (ev_54 (d := d) (by omega) hT14 ho1) (fun r22 w21 hT21 => ?_)
          refine s_const rfl ?_
          refine sp_ite (fun h23 => ?_) (fun h23 => ?_)
          · refine s_ic0 rfl (zc_ne0 h23) ?_
            refine s_aload rfl rfl ?_
            refine s_get6 rfl hT21 ho0 ?_
            refine s_const rfl ?_
            refine s_callZ [.ref 1, .int 5] [] rfl rfl (Nat.le_of_ble_eq_true rfl) (ev_36 (d := d) (by omega) hT21 ist_1) (fun r25 w24 hT24 => ?_)
            exact s_retZ (z := r25) rfl rfl hT24 (fun _ _ h => h)
          · refine s_ic1 rfl (zc_ne1 h23) ?_
            refine s_const rfl ?_
            refine s_istoreF [(0, .ref o0), (1, .ref o1), (2, .int p2), (4, .int v4_1), (5, .int v5_17), (6, .int v6_3), (7, .int r11), (8, .int r15), (9, .int 0)] rfl (subl_c rfl (subl_c rfl (subl_c rfl (subl_c rfl (subl_c rfl (subl_c rfl (subl_c rfl (subl_c rfl (subl_c rfl (subl_n)))))))))) ?_
            let lvL28 : Int32 × Int32 → List (Nat × Value) := fun s39 => [(0, .ref o0), (1, .ref o1), (2, .int p2), (4, .int (s39.1)), (5, .int v5_17), (6, .int v6_3), (7, .int r11), (8, .int r15), (9, .int (s39.2))]
            refine s_loop lvL28 (subl_c rfl (subl_c rfl (subl_c rfl (subl_c rfl (subl_c rfl (subl_c rfl (subl_c rfl (subl_c rfl (subl_c rfl (subl_n)))))))))) hT21 (fun s39 w29 hT29 => ?_)
            obtain ⟨v4_26, v9_27⟩ := s39
            show sp _ (PP _ _ _ (112, [(0, .ref o0), (1, .ref o1), (2, .int p2), (4, .int v4_26), (5, .int v5_17), (6, .int v6_3), (7, .int r11), (8, .int r15), (9, .int v9_27)], [], w29))
            refine s_iload rfl rfl ?_
            refine s_iload rfl rfl ?_
            refine sp_ite (fun h30 => ?_) (fun h30 => ?_)
            · refine s_ic0 rfl (zc_ge0 h30) ?_
              refine s_aload rfl rfl ?_
              refine s_iload rfl rfl ?_
              refine s_iload rfl rfl ?_
              refine s_callI [.ref o1, .int v4_26, .int r11] [] rfl rfl (Nat.le_of_ble_eq_true rfl) (ev_55 (d := d) (by omega) hT29 ho1) (fun r32 w31 hT31 => ?_)
              refine s_istoreF [(0, .ref o0), (1, .ref o1), (2, .int p2), (4, .int r32), (5, .int v5_17), (6, .int v6_3), (7, .int r11), (8, .int r15), (9, .int v9_27)] rfl (subl_c rfl (subl_c rfl (subl_c rfl (subl_c rfl (subl_c rfl (subl_c rfl (subl_c rfl (subl_c rfl (subl_c rfl (subl_n)))))))))) ?_
              refine s_aload rfl rfl ?_
              refine s_iload rfl rfl ?_
              refine s_iload rfl rfl ?_
              refine s_callV [.ref o1, .int p2, .int r32] [] rfl rfl (Nat.le_of_ble_eq_true rfl) (ev_51 (d := d) (by omega) hT31 ho1) (fun _ w33 hT33 => ?_)
              refine s_iincF (fun v9_35 => [(0, .ref o0), (1, .ref o1), (2, .int p2), (4, .int r32), (5, .int v5_17), (6, .int v6_3), (7, .int r11), (8, .int r15), (9, .int v9_35)]) rfl rfl (fun _ => subl_c rfl (subl_c rfl (subl_c rfl (subl_c rfl (subl_c rfl (subl_c rfl (subl_c rfl (subl_c rfl (subl_c rfl (subl_n)))))))))) (fun v9_35 => ?_)
              refine s_goto rfl ?_
              exact s_back (lvL := lvL28) (s' := (r32, v9_35)) (subl_c rfl (subl_c rfl (subl_c rfl (subl_c rfl (subl_c rfl (subl_c rfl (subl_c rfl (subl_c rfl (subl_c rfl (subl_n)))))))))) hT33 (fun _ _ h => h)
            · refine s_ic1 rfl (zc_ge1 h30) ?_
              refine s_aload rfl rfl ?_
              refine s_get6 rfl hT29 ho0 ?_
              refine s_callV [.ref 1] [] rfl rfl (Nat.le_of_ble_eq_true rfl) (ev_37 (d := d) (by omega) hT29 ist_1) (fun _ w36 hT36 => ?_)
              refine s_iincF (fun v6_38 => [(0, .ref o0), (1, .ref o1), (2, .int p2), (4, .int v4_26), (5, .int v5_17), (6, .int v6_38)]) rfl rfl (fun _ => subl_c rfl (subl_c rfl (subl_c rfl (subl_c rfl (subl_c rfl (subl_c rfl (subl_n))))))) (fun v6_38 => ?_)
              refine s_goto rfl ?_
              exact s_back (lvL := lvL4) (s' := (v4_26, v5_17, v6_38)) (subl_c rfl (subl_c rfl (subl_c rfl (subl_c rfl (subl_c rfl (subl_c rfl (subl_n))))))) hT36 (fun _ _ h => h)
  · refine s_ic1 rfl (zc_gt1 h6) ?_
    refine s_const rfl ?_
    exact s_retZ (z := true) rfl rfl hT5 (fun _ _ h => h)
/-- RugReader$HouseText.takeWay(LRugReader$House;)Z -/
def sh_49 (o0 : Nat) (o1 : Nat) (w : Wd) : Option (Bool × Wd) := lt (wI w o1 4 : Int32) (fun v2_1 => if 0 ≤ v2_1 then (if 6 ≤ v2_1 then (cl (sh_36 1 4 w) (fun r5 w4 => some (r5, w4))) else (cl (sh_37 1 w) (fun _ w6 => cl (sh_41 o0 o1 w6) (fun r9 w8 => gd (ib v2_1 6) (stL w8 (o1 + 5) (ix v2_1) r9 (fun w10 => gd (ib v2_1 6) (if wL w10 (o1 + 5) (ix v2_1) = (-1) then (some (false, w10)) else (cl (sh_46 o0 o1 w10) (fun r13 w12 => if r13 = (-1) then (some (false, w12)) else (cl (sh_50 o1 r13 w12) (fun r16 w15 => if r16 = true then (cl (sh_36 1 5 w15) (fun r19 w18 => some (r19, w18))) else (cl (sh_37 1 w15) (fun _ w20 => gd (ib v2_1 6) (stI w20 (o1 + 6) (ix v2_1) 0 (fun w22 => cl (sh_51 o1 v2_1 r13 w22) (fun _ w23 => cl (sh_52 o0 o1 v2_1 r13 w23) (fun r26 w25 => if r26 = true then (stI w25 o1 4 ((wI w25 o1 4) + 1) (fun w28 => some (true, w28))) else (some (false, w25))))))))))))))))))) else (cl (sh_36 1 4 w) (fun r30 w29 => some (r30, w29))))
set_option maxRecDepth 20000 in
set_option maxHeartbeats 4000000 in
theorem ev_49 {d : Nat} (hd : 5 ≤ d) {o0 : Nat} {o1 : Nat} {w : Wd} (hT : TY w) (ho0 : ist o0 2) (ho1 : ist o1 1) : sp (sh_49 o0 o1 w) (fun r w' => TY w' ∧ Ev d 49 [.ref o0, .ref o1] w (cvZ r) w') := by
  obtain ⟨d, rfl⟩ : ∃ d', d = d' + 1 := ⟨d - 1, by omega⟩
  refine ev_of (M := M49) zin_49 rfl (by decide) rfl (Nat.le_of_ble_eq_true rfl) (Or.inr ⟨o0, _, rfl, ho0⟩) hT ?_
  show sp _ (PP (Ev d) M49 (KR cvZ) (0, [(0, .ref o0), (1, .ref o1)], [], w))
  unfold sh_49
  refine s_aload rfl rfl ?_
  refine s_getI rfl hT ho1 ?_
  refine s_nmI (fun v2_1 => ?_)
  refine s_istoreF [(0, .ref o0), (1, .ref o1), (2, .int v2_1)] rfl (subl_c rfl (subl_c rfl (subl_c rfl (subl_n)))) ?_
  refine s_iload rfl rfl ?_
  refine sp_ite (fun h2 => ?_) (fun h2 => ?_)
  · refine s_if0 rfl (zc_lt0 h2) ?_
    refine s_iload rfl rfl ?_
    refine s_const rfl ?_
    refine sp_ite (fun h3 => ?_) (fun h3 => ?_)
    · refine s_ic0 rfl (zc_lt0 h3) ?_
      refine s_aload rfl rfl ?_
      refine s_get6 rfl hT ho0 ?_
      refine s_const rfl ?_
      refine s_callZ [.ref 1, .int 4] [] rfl rfl (Nat.le_of_ble_eq_true rfl) (ev_36 (d := d) (by omega) hT ist_1) (fun r5 w4 hT4 => ?_)
      exact s_retZ (z := r5) rfl rfl hT4 (fun _ _ h => h)
    · refine s_ic1 rfl (zc_lt1 h3) ?_
      refine s_aload rfl rfl ?_
      refine s_get6 rfl hT ho0 ?_
      refine s_callV [.ref 1] [] rfl rfl (Nat.le_of_ble_eq_true rfl) (ev_37 (d := d) (by omega) hT ist_1) (fun _ w6 hT6 => ?_)
      refine s_aload rfl rfl ?_
      refine s_getF rfl hT6 ho1 rfl ?_
      refine s_iload rfl rfl ?_
      refine s_aload rfl rfl ?_
      refine s_aload rfl rfl ?_
      refine s_callL [.ref o0, .ref o1] [.int v2_1, .ref (o1 + 5)] rfl rfl (Nat.le_of_ble_eq_true rfl) (ev_41 (d := d) (by omega) hT6 ho0 ho1) (fun r9 w8 hT8 => ?_)
      refine s_last rfl hT8 (of_1_11 ho1) (fun w10 hT10 => ?_)
      refine s_aload rfl rfl ?_
      refine s_getF rfl hT10 ho1 rfl ?_
      refine s_iload rfl rfl ?_
      refine s_lald rfl hT10 (of_1_11 ho1) ?_
      refine s_lconst (x := (-1)) rfl rfl ?_
      refine s_lcmp rfl ?_
      refine sp_ite (fun h11 => ?_) (fun h11 => ?_)
      · refine s_if0 rfl (zl_ne0 h11) ?_
        refine s_const rfl ?_
        exact s_retZ (z := false) rfl rfl hT10 (fun _ _ h => h)
      · refine s_if1 rfl (zl_ne1 h11) ?_
        refine s_aload rfl rfl ?_
        refine s_aload rfl rfl ?_
        refine s_callI [.ref o0, .ref o1] [] rfl rfl (Nat.le_of_ble_eq_true rfl) (ev_46 (d := d) (by omega) hT10 ho0 ho1) (fun r13 w12 hT12 => ?_)
        refine s_istoreF [(0, .ref o0), (1, .ref o1), (2, .int v2_1), (3, .int r13)] rfl (subl_c rfl (subl_c rfl (subl_c rfl (subl_c rfl (subl_n))))) ?_
        refine s_iload rfl rfl ?_
        refine s_const rfl ?_
        refine sp_ite (fun h14 => ?_) (fun h14 => ?_)
        · refine s_ic0 rfl (zc_ne0 h14) ?_
          refine s_const rfl ?_
          exact s_retZ (z := false) rfl rfl hT12 (fun _ _ h => h)
        · refine s_ic1 rfl (zc_ne1 h14) ?_
          refine s_aload rfl rfl ?_
          refine s_iload rfl rfl ?_
          refine s_callZ [.ref o1, .int r13] [] rfl rfl (Nat.le_of_ble_eq_true rfl) (ev_50 (d := d) (by omega) hT12 ho1) (fun r16 w15 hT15 => ?_)
          refine sp_ite (fun h17 => ?_) (fun h17 => ?_)
          · refine s_if0 rfl (zb_eq0 h17) ?_
            refine s_aload rfl rfl ?_
            refine s_get6 rfl hT15 ho0 ?_
            refine s_const rfl ?_
            refine s_callZ [.ref 1, .int 5] [] rfl rfl (Nat.le_of_ble_eq_true rfl) (ev_36 (d := d) (by omega) hT15 ist_1) (fun r19 w18 hT18 => ?_)
            exact s_retZ (z := r19) rfl rfl hT18 (fun _ _ h => h)
          · refine s_if1 rfl (zb_eq1 h17) ?_
            refine s_aload rfl rfl ?_
            refine s_get6 rfl hT15 ho0 ?_
            refine s_callV [.ref 1] [] rfl rfl (Nat.le_of_ble_eq_true rfl) (ev_37 (d := d) (by omega) hT15 ist_1) (fun _ w20 hT20 => ?_)
            refine s_aload rfl rfl ?_
            refine s_getF rfl hT20 ho1 rfl ?_
            refine s_iload rfl rfl ?_
            refine s_const rfl ?_
            refine s_iast rfl hT20 (of_1_12 ho1) (fun w22 hT22 => ?_)
            refine s_aload rfl rfl ?_
            refine s_iload rfl rfl ?_
            refine s_iload rfl rfl ?_
            refine s_callV [.ref o1, .int v2_1, .int r13] [] rfl rfl (Nat.le_of_ble_eq_true rfl) (ev_51 (d := d) (by omega) hT22 ho1) (fun _ w23 hT23 => ?_)
            refine s_aload rfl rfl ?_
            refine s_aload rfl rfl ?_
            refine s_iload rfl rfl ?_
            refine s_iload rfl rfl ?_
            refine s_callZ [.ref o0, .ref o1, .int v2_1, .int r13] [] rfl rfl (Nat.le_of_ble_eq_true rfl) (ev_52 (d := d) (by omega) hT23 ho0 ho1) (fun r26 w25 hT25 => ?_)
            refine sp_ite (fun h27 => ?_) (fun h27 => ?_)
            · refine s_if1 rfl (zb_ne1 h27) ?_
              refine s_aload rfl rfl ?_
              refine s_dup rfl rfl ?_
              refine s_getI rfl hT25 ho1 ?_
              refine s_const rfl ?_
              refine s_bin rfl rfl ?_
              refine s_putI rfl hT25 ho1 rfl (fun w28 hT28 => ?_)
              refine s_const rfl ?_
              exact s_retZ (z := true) rfl rfl hT28 (fun _ _ h => h)
            · refine s_if0 rfl (zb_ne0 h27) ?_
              refine s_const rfl ?_
              exact s_retZ (z := false) rfl rfl hT25 (fun _ _ h => h)
  · refine s_if1 rfl (zc_lt1 h2) ?_
    refine s_aload rfl rfl ?_
    refine s_get6 rfl hT ho0 ?_
    refine s_const rfl ?_
    refine s_callZ [.ref 1, .int 4] [] rfl rfl (Nat.le_of_ble_eq_true rfl) (ev_36 (d := d) (by omega) hT ist_1) (fun r30 w29 hT29 => ?_)
    exact s_retZ (z := r30) rfl rfl hT29 (fun _ _ h => h)
/-- RugReader$HouseText.takeFade(LRugReader$House;)Z -/
def sh_57 (o0 : Nat) (o1 : Nat) (w : Wd) : Option (Bool × Wd) := if 0 < wI w o1 2 then (cl (sh_36 1 3 w) (fun r3 w2 => some (r3, w2))) else (cl (sh_37 1 w) (fun _ w4 => cl (sh_38 1 1 9 w4) (fun r7 w6 => if r7 = (-1) then (some (false, w6)) else (stI w6 o1 2 r7 (fun w9 => some (true, w9))))))
set_option maxRecDepth 20000 in
set_option maxHeartbeats 4000000 in
theorem ev_57 {d : Nat} (hd : 4 ≤ d) {o0 : Nat} {o1 : Nat} {w : Wd} (hT : TY w) (ho0 : ist o0 2) (ho1 : ist o1 1) : sp (sh_57 o0 o1 w) (fun r w' => TY w' ∧ Ev d 57 [.ref o0, .ref o1] w (cvZ r) w') := by
  obtain ⟨d, rfl⟩ : ∃ d', d = d' + 1 := ⟨d - 1, by omega⟩
  refine ev_of (M := M57) zin_57 rfl (by decide) rfl (Nat.le_of_ble_eq_true rfl) (Or.inr ⟨o0, _, rfl, ho0⟩) hT ?_
  show sp _ (PP (Ev d) M57 (KR cvZ) (0, [(0, .ref o0), (1, .ref o1)], [], w))
  unfold sh_57
  refine s_aload rfl rfl ?_
  refine s_getI rfl hT ho1 ?_
  refine sp_ite (fun h1 => ?_) (fun h1 => ?_)
  · refine s_if0 rfl (zc_le0 h1) ?_
    refine s_aload rfl rfl ?_
    refine s_get6 rfl hT ho0 ?_
    refine s_const rfl ?_
    refine s_callZ [.ref 1, .int 3] [] rfl rfl (Nat.le_of_ble_eq_true rfl) (ev_36 (d := d) (by omega) hT ist_1) (fun r3 w2 hT2 => ?_)
    exact s_retZ (z := r3) rfl rfl hT2 (fun _ _ h => h)
  · refine s_if1 rfl (zc_le1 h1) ?_
    refine s_aload rfl rfl ?_
    refine s_get6 rfl hT ho0 ?_
    refine s_callV [.ref 1] [] rfl rfl (Nat.le_of_ble_eq_true rfl) (ev_37 (d := d) (by omega) hT ist_1) (fun _ w4 hT4 => ?_)
    refine s_aload rfl rfl ?_
    refine s_get6 rfl hT4 ho0 ?_
    refine s_const rfl ?_
    refine s_const rfl ?_
    refine s_callI [.ref 1, .int 1, .int 9] [] rfl rfl (Nat.le_of_ble_eq_true rfl) (ev_38 (d := d) (by omega) hT4 ist_1) (fun r7 w6 hT6 => ?_)
    refine s_istoreF [(1, .ref o1), (2, .int r7)] rfl (subl_c rfl (subl_c rfl (subl_n))) ?_
    refine s_iload rfl rfl ?_
    refine s_const rfl ?_
    refine sp_ite (fun h8 => ?_) (fun h8 => ?_)
    · refine s_ic0 rfl (zc_ne0 h8) ?_
      refine s_const rfl ?_
      exact s_retZ (z := false) rfl rfl hT6 (fun _ _ h => h)
    · refine s_ic1 rfl (zc_ne1 h8) ?_
      refine s_aload rfl rfl ?_
      refine s_iload rfl rfl ?_
      refine s_putI rfl hT6 ho1 rfl (fun w9 hT9 => ?_)
      refine s_const rfl ?_
      exact s_retZ (z := true) rfl rfl hT9 (fun _ _ h => h)
/-- RugReader$HouseText.takeLine(LRugReader$House;)Z -/
def sh_32 (o0 : Nat) (o1 : Nat) (w : Wd) : Option (Bool × Wd) := cl (sh_33 1 w) (fun r2 w1 => gd (zwk (r2)) (gd (zwk (some 1010)) (if r2 = some 1010 then (cl (sh_35 o0 o1 w1) (fun r7 w6 => some (r7, w6))) else (gd (zwk (r2)) (gd (zwk (some 1011)) (if r2 = some 1011 then (cl (sh_40 o0 o1 w1) (fun r12 w11 => some (r12, w11))) else (gd (zwk (r2)) (gd (zwk (some 1012)) (if r2 = some 1012 then (cl (sh_45 o0 o1 w1) (fun r17 w16 => some (r17, w16))) else (gd (zwk (r2)) (gd (zwk (some 1013)) (if r2 = some 1013 then (cl (sh_47 o0 o1 w1) (fun r22 w21 => some (r22, w21))) else (gd (zwk (r2)) (gd (zwk (some 1014)) (if r2 = some 1014 then (cl (sh_49 o0 o1 w1) (fun r27 w26 => some (r27, w26))) else (gd (zwk (r2)) (gd (zwk (some 1015)) (if r2 = some 1015 then (cl (sh_57 o0 o1 w1) (fun r32 w31 => some (r32, w31))) else (cl (sh_36 1 1 w1) (fun r34 w33 => some (r34, w33)))))))))))))))))))))
set_option maxRecDepth 20000 in
set_option maxHeartbeats 4000000 in
theorem ev_32 {d : Nat} (hd : 6 ≤ d) {o0 : Nat} {o1 : Nat} {w : Wd} (hT : TY w) (ho0 : ist o0 2) (ho1 : ist o1 1) : sp (sh_32 o0 o1 w) (fun r w' => TY w' ∧ Ev d 32 [.ref o0, .ref o1] w (cvZ r) w') := by
  obtain ⟨d, rfl⟩ : ∃ d', d = d' + 1 := ⟨d - 1, by omega⟩
  refine ev_of (M := M32) zin_32 rfl (by decide) rfl (Nat.le_of_ble_eq_true rfl) (Or.inr ⟨o0, _, rfl, ho0⟩) hT ?_
  show sp _ (PP (Ev d) M32 (KR cvZ) (0, [(0, .ref o0), (1, .ref o1)], [], w))
  unfold sh_32
  refine s_aload rfl rfl ?_
  refine s_get6 rfl hT ho0 ?_
  refine s_callR [.ref 1] [] rfl rfl (Nat.le_of_ble_eq_true rfl) (ev_33 (d := d) (by omega) hT ist_1) (fun r2 w1 hT1 => ?_)
  refine s_astoreRF (x := r2) [(0, .ref o0), (1, .ref o1), (2, va_rf r2)] rfl (subl_c rfl (subl_c rfl (subl_c rfl (subl_n)))) ?_
  refine s_aloadR (x := r2) rfl rfl ?_
  refine s_static rfl ?_
  refine sp_gd (fun h4 => ?_)
  refine sp_gd (fun h5 => ?_)
  refine sp_ite (fun h3 => ?_) (fun h3 => ?_)
  · refine s_acn (x := r2) (y := some 1010) rfl h4 h5 (fun q => absurd h3 q) (fun _ => ?_)
    refine s_aload rfl rfl ?_
    refine s_aload rfl rfl ?_
    refine s_callZ [.ref o0, .ref o1] [] rfl rfl (Nat.le_of_ble_eq_true rfl) (ev_35 (d := d) (by omega) hT1 ho0 ho1) (fun r7 w6 hT6 => ?_)
    exact s_retZ (z := r7) rfl rfl hT6 (fun _ _ h => h)
  · refine s_acn (x := r2) (y := some 1010) rfl h4 h5 (fun _ => ?_) (fun q => absurd q h3)
    refine s_aloadR (x := r2) rfl rfl ?_
    refine s_static rfl ?_
    refine sp_gd (fun h9 => ?_)
    refine sp_gd (fun h10 => ?_)
    refine sp_ite (fun h8 => ?_) (fun h8 => ?_)
    · refine s_acn (x := r2) (y := some 1011) rfl h9 h10 (fun q => absurd h8 q) (fun _ => ?_)
      refine s_aload rfl rfl ?_
      refine s_aload rfl rfl ?_
      refine s_callZ [.ref o0, .ref o1] [] rfl rfl (Nat.le_of_ble_eq_true rfl) (ev_40 (d := d) (by omega) hT1 ho0 ho1) (fun r12 w11 hT11 => ?_)
      exact s_retZ (z := r12) rfl rfl hT11 (fun _ _ h => h)
    · refine s_acn (x := r2) (y := some 1011) rfl h9 h10 (fun _ => ?_) (fun q => absurd q h8)
      refine s_aloadR (x := r2) rfl rfl ?_
      refine s_static rfl ?_
      refine sp_gd (fun h14 => ?_)
      refine sp_gd (fun h15 => ?_)
      refine sp_ite (fun h13 => ?_) (fun h13 => ?_)
      · refine s_acn (x := r2) (y := some 1012) rfl h14 h15 (fun q => absurd h13 q) (fun _ => ?_)
        refine s_aload rfl rfl ?_
        refine s_aload rfl rfl ?_
        refine s_callZ [.ref o0, .ref o1] [] rfl rfl (Nat.le_of_ble_eq_true rfl) (ev_45 (d := d) (by omega) hT1 ho0 ho1) (fun r17 w16 hT16 => ?_)
        exact s_retZ (z := r17) rfl rfl hT16 (fun _ _ h => h)
      · refine s_acn (x := r2) (y := some 1012) rfl h14 h15 (fun _ => ?_) (fun q => absurd q h13)
        refine s_aloadR (x := r2) rfl rfl ?_
        refine s_static rfl ?_
        refine sp_gd (fun h19 => ?_)
        refine sp_gd (fun h20 => ?_)
        refine sp_ite (fun h18 => ?_) (fun h18 => ?_)
        · refine s_acn (x := r2) (y := some 1013) rfl h19 h20 (fun q => absurd h18 q) (fun _ => ?_)
          refine s_aload rfl rfl ?_
          refine s_aload rfl rfl ?_
          refine s_callZ [.ref o0, .ref o1] [] rfl rfl (Nat.le_of_ble_eq_true rfl) (ev_47 (d := d) (by omega) hT1 ho0 ho1) (fun r22 w21 hT21 => ?_)
          exact s_retZ (z := r22) rfl rfl hT21 (fun _ _ h => h)
        · refine s_acn (x := r2) (y := some 1013) rfl h19 h20 (fun _ => ?_) (fun q => absurd q h18)
          refine s_aloadR (x := r2) rfl rfl ?_
          refine s_static rfl ?_
          refine sp_gd (fun h24 => ?_)
          refine sp_gd (fun h25 => ?_)
          refine sp_ite (fun h23 => ?_) (fun h23 => ?_)
          · refine s_acn (x := r2) (y := some 1014) rfl h24 h25 (fun q => absurd h23 q) (fun _ => ?_)
            refine s_aload rfl rfl ?_
            refine s_aload rfl rfl ?_
            refine s_callZ [.ref o0, .ref o1] [] rfl rfl (Nat.le_of_ble_eq_true rfl) (ev_49 (d := d) (by omega) hT1 ho0 ho1) (fun r27 w26 hT26 => ?_)
            exact s_retZ (z := r27) rfl rfl hT26 (fun _ _ h => h)
          · refine s_acn (x := r2) (y := some 1014) rfl h24 h25 (fun _ => ?_) (fun q => absurd q h23)
            refine s_aloadR (x := r2) rfl rfl ?_
            refine s_static rfl ?_
            refine sp_gd (fun h29 => ?_)
            refine sp_gd (fun h30 => ?_)
            refine sp_ite (fun h28 => ?_) (fun h28 => ?_)
            · refine s_acn (x := r2) (y := some 1015) rfl h29 h30 (fun q => absurd h28 q) (fun _ => ?_)
              refine s_aload rfl rfl ?_
              refine s_aload rfl rfl ?_
              refine s_callZ [.ref o0, .ref o1] [] rfl rfl (Nat.le_of_ble_eq_true rfl) (ev_57 (d := d) (by omega) hT1 ho0 ho1) (fun r32 w31 hT31 => ?_)
              refine s_goto rfl ?_
              exact s_retZ (z := r32) rfl rfl hT31 (fun _ _ h => h)
            · refine s_acn (x := r2) (y := some 1015) rfl h29 h30 (fun _ => ?_) (fun q => absurd q h28)
              refine s_aload rfl rfl ?_
              refine s_get6 rfl hT1 ho0 ?_
              refine s_const rfl ?_
              refine s_callZ [.ref 1, .int 1] [] rfl rfl (Nat.le_of_ble_eq_true rfl) (ev_36 (d := d) (by omega) hT1 ist_1) (fun r34 w33 hT33 => ?_)
              exact s_retZ (z := r34) rfl rfl hT33 (fun _ _ h => h)
/-- RugReader$Tape.signHere()I -/
def sh_59 (o0 : Nat) (w : Wd) : Option (Int32 × Wd) := cl (sh_31 o0 4 w) (fun r2 w1 => if r2 = true then (cl (sh_34 o0 w1) (fun r5 w4 => some (r5.toInt32, w4))) else (some (0, w1)))
set_option maxRecDepth 20000 in
set_option maxHeartbeats 4000000 in
theorem ev_59 {d : Nat} (hd : 2 ≤ d) {o0 : Nat} {w : Wd} (hT : TY w) (ho0 : ist o0 7) : sp (sh_59 o0 w) (fun r w' => TY w' ∧ Ev d 59 [.ref o0] w (cvI r) w') := by
  obtain ⟨d, rfl⟩ : ∃ d', d = d' + 1 := ⟨d - 1, by omega⟩
  refine ev_of (M := M59) zin_59 rfl (by decide) rfl (Nat.le_of_ble_eq_true rfl) (Or.inr ⟨o0, _, rfl, ho0⟩) hT ?_
  show sp _ (PP (Ev d) M59 (KR cvI) (0, [(0, .ref o0)], [], w))
  unfold sh_59
  refine s_aload rfl rfl ?_
  refine s_const rfl ?_
  refine s_callZ [.ref o0, .int 4] [] rfl rfl (Nat.le_of_ble_eq_true rfl) (ev_31 (d := d) (by omega) hT ho0) (fun r2 w1 hT1 => ?_)
  refine sp_ite (fun h3 => ?_) (fun h3 => ?_)
  · refine s_if0 rfl (zb_eq0 h3) ?_
    refine s_aload rfl rfl ?_
    refine s_callL [.ref o0] [] rfl rfl (Nat.le_of_ble_eq_true rfl) (ev_34 (d := d) (by omega) hT1 ho0) (fun r5 w4 hT4 => ?_)
    refine s_l2i rfl ?_
    refine s_goto rfl ?_
    exact s_retI rfl rfl hT4 (fun _ _ h => h)
  · refine s_if1 rfl (zb_eq1 h3) ?_
    refine s_const rfl ?_
    exact s_retI rfl rfl hT1 (fun _ _ h => h)
/-- RugReader$Tape.takeSign(I)Z -/
def sh_58 (o0 : Nat) (p1 : Int32) (w : Wd) : Option (Bool × Wd) := cl (sh_59 o0 w) (fun r2 w1 => if r2 = p1 then (cl (sh_37 o0 w1) (fun _ w4 => some (true, w4))) else (cl (sh_36 o0 1 w1) (fun r7 w6 => some (r7, w6))))
set_option maxRecDepth 20000 in
set_option maxHeartbeats 4000000 in
theorem ev_58 {d : Nat} (hd : 3 ≤ d) {o0 : Nat} {p1 : Int32} {w : Wd} (hT : TY w) (ho0 : ist o0 7) : sp (sh_58 o0 p1 w) (fun r w' => TY w' ∧ Ev d 58 [.ref o0, .int p1] w (cvZ r) w') := by
  obtain ⟨d, rfl⟩ : ∃ d', d = d' + 1 := ⟨d - 1, by omega⟩
  refine ev_of (M := M58) zin_58 rfl (by decide) rfl (Nat.le_of_ble_eq_true rfl) (Or.inr ⟨o0, _, rfl, ho0⟩) hT ?_
  show sp _ (PP (Ev d) M58 (KR cvZ) (0, [(0, .ref o0), (1, .int p1)], [], w))
  unfold sh_58
  refine s_aload rfl rfl ?_
  refine s_callI [.ref o0] [] rfl rfl (Nat.le_of_ble_eq_true rfl) (ev_59 (d := d) (by omega) hT ho0) (fun r2 w1 hT1 => ?_)
  refine s_iload rfl rfl ?_
  refine sp_ite (fun h3 => ?_) (fun h3 => ?_)
  · refine s_ic1 rfl (zc_eq1 h3) ?_
    refine s_aload rfl rfl ?_
    refine s_callV [.ref o0] [] rfl rfl (Nat.le_of_ble_eq_true rfl) (ev_37 (d := d) (by omega) hT1 ho0) (fun _ w4 hT4 => ?_)
    refine s_const rfl ?_
    exact s_retZ (z := true) rfl rfl hT4 (fun _ _ h => h)
  · refine s_ic0 rfl (zc_eq0 h3) ?_
    refine s_aload rfl rfl ?_
    refine s_const rfl ?_
    refine s_callZ [.ref o0, .int 1] [] rfl rfl (Nat.le_of_ble_eq_true rfl) (ev_36 (d := d) (by omega) hT1 ho0) (fun r7 w6 hT6 => ?_)
    exact s_retZ (z := r7) rfl rfl hT6 (fun _ _ h => h)
/-- RugReader$Tape.ends()Z -/
def sh_60 (o0 : Nat) (w : Wd) : Option (Bool × Wd) := cl (sh_30 o0 w) (fun r2 w1 => jn (fun (s10 : Unit) (w4 : Wd) => cl (sh_36 o0 1 w4) (fun r6 w5 => if r6 = true then (some (true, w5)) else (some (false, w5)))) (fun j3 => if r2 = true then (if wI w1 o0 4 = 0 then (some (true, w1)) else (j3 () w1)) else (j3 () w1)))
set_option maxRecDepth 20000 in
set_option maxHeartbeats 4000000 in
theorem ev_60 {d : Nat} (hd : 3 ≤ d) {o0 : Nat} {w : Wd} (hT : TY w) (ho0 : ist o0 7) : sp (sh_60 o0 w) (fun r w' => TY w' ∧ Ev d 60 [.ref o0] w (cvZ r) w') := by
  obtain ⟨d, rfl⟩ : ∃ d', d = d' + 1 := ⟨d - 1, by omega⟩
  refine ev_of (M := M60) zin_60 rfl (by decide) rfl (Nat.le_of_ble_eq_true rfl) (Or.inr ⟨o0, _, rfl, ho0⟩) hT ?_
  show sp _ (PP (Ev d) M60 (KR cvZ) (0, [(0, .ref o0)], [], w))
  unfold sh_60
  refine s_aload rfl rfl ?_
  refine s_callZ [.ref o0] [] rfl rfl (Nat.le_of_ble_eq_true rfl) (ev_30 (d := d) (by omega) hT ho0) (fun r2 w1 hT1 => ?_)
  refine s_jnP (fun (s10 : Unit) w => (14, [(0, .ref o0)], [], w)) (fun s10 w4 hT4 => ?_) (fun j3 hj3 => ?_)
  · show sp _ (PP _ _ _ (14, [(0, .ref o0)], [], w4))
    refine s_aload rfl rfl ?_
    refine s_const rfl ?_
    refine s_callZ [.ref o0, .int 1] [] rfl rfl (Nat.le_of_ble_eq_true rfl) (ev_36 (d := d) (by omega) hT4 ho0) (fun r6 w5 hT5 => ?_)
    refine sp_ite (fun h7 => ?_) (fun h7 => ?_)
    · refine s_if0 rfl (zb_eq0 h7) ?_
      refine s_const rfl ?_
      refine s_goto rfl ?_
      exact s_retZ (z := true) rfl rfl hT5 (fun _ _ h => h)
    · refine s_if1 rfl (zb_eq1 h7) ?_
      refine s_const rfl ?_
      exact s_retZ (z := false) rfl rfl hT5 (fun _ _ h => h)
  · refine sp_ite (fun h8 => ?_) (fun h8 => ?_)
    · refine s_if0 rfl (zb_eq0 h8) ?_
      refine s_aload rfl rfl ?_
      refine s_getI rfl hT1 ho0 ?_
      refine sp_ite (fun h9 => ?_) (fun h9 => ?_)
      · refine s_if1 rfl (zc_eq1 h9) ?_
        refine s_const rfl ?_
        refine s_goto rfl ?_
        exact s_retZ (z := true) rfl rfl hT1 (fun _ _ h => h)
      · refine s_if0 rfl (zc_eq0 h9) ?_
        exact s_fgt _ (subl_c rfl (subl_n)) (hj3 () w1 hT1)
    · refine s_if1 rfl (zb_eq1 h8) ?_
      exact s_fgt _ (subl_c rfl (subl_n)) (hj3 () w1 hT1)
/-- RugReader$HouseText.take(LRugReader$House;)I -/
def sh_16 (o0 : Nat) (o1 : Nat) (w : Wd) : Option (Int32 × Wd) := cl (sh_17 o1 w) (fun _ w1 => cl (sh_18 1 900 w1) (fun _ w3 => itM (fun (v2_5 : Int32) (w7 : Wd) => jn (fun (s26 : Unit) (w9 : Wd) => cl (sh_60 1 w9) (fun r11 w10 => lt (if r11 = true then v2_5 else (-1) : Int32) (fun z12 => some (.inr (z12), w10)))) (fun j8 => if v2_5 < 900 then (cl (sh_30 1 w7) (fun r17 w16 => if r17 = true then (j8 () w16) else (cl (sh_32 o0 o1 w16) (fun r20 w19 => if r20 = true then (cl (sh_58 1 59 w19) (fun r23 w22 => if r23 = true then (lt (v2_5 + 1 : Int32) (fun v2_25 => some (.inl v2_25, w22))) else (some (.inr ((-1)), w22)))) else (some (.inr ((-1)), w19)))))) else (j8 () w7))) FU 0 w3))
set_option maxRecDepth 20000 in
set_option maxHeartbeats 4000000 in
theorem ev_16 {d : Nat} (hd : 7 ≤ d) {o0 : Nat} {o1 : Nat} {w : Wd} (hT : TY w) (ho0 : ist o0 2) (ho1 : ist o1 1) : sp (sh_16 o0 o1 w) (fun r w' => TY w' ∧ Ev d 16 [.ref o0, .ref o1] w (cvI r) w') := by
  obtain ⟨d, rfl⟩ : ∃ d', d = d' + 1 := ⟨d - 1, by omega⟩
  refine ev_of (M := M16) zin_16 rfl (by decide) rfl (Nat.le_of_ble_eq_true rfl) (Or.inr ⟨o0, _, rfl, ho0⟩) hT ?_
  show sp _ (PP (Ev d) M16 (KR cvI) (0, [(0, .ref o0), (1, .ref o1)], [], w))
  unfold sh_16
  refine s_aload rfl rfl ?_
  refine s_callV [.ref o1] [] rfl rfl (Nat.le_of_ble_eq_true rfl) (ev_17 (d := d) (by omega) hT ho1) (fun _ w1 hT1 => ?_)
  refine s_aload rfl rfl ?_
  refine s_get6 rfl hT1 ho0 ?_
  refine s_const rfl ?_
  refine s_callV [.ref 1, .int 900] [] rfl rfl (Nat.le_of_ble_eq_true rfl) (ev_18 (d := d) (by omega) hT1 ist_1) (fun _ w3 hT3 => ?_)
  refine s_const rfl ?_
  refine s_istoreF [(0, .ref o0), (1, .ref o1), (2, .int 0)] rfl (subl_c rfl (subl_c rfl (subl_c rfl (subl_n)))) ?_
  let lvL6 : Int32 → List (Nat × Value) := fun s27 => [(0, .ref o0), (1, .ref o1), (2, .int s27)]
  refine s_loop lvL6 (subl_c rfl (subl_c rfl (subl_c rfl (subl_n)))) hT3 (fun v2_5 w7 hT7 => ?_)
  show sp _ (PP _ _ _ (16, [(0, .ref o0), (1, .ref o1), (2, .int v2_5)], [], w7))
  refine s_iload rfl rfl ?_
  refine s_const rfl ?_
  refine s_jnP (fun (s26 : Unit) w => (61, [(0, .ref o0), (2, .int v2_5)], [], w)) (fun s26 w9 hT9 => ?_) (fun j8 hj8 => ?_)
  · show sp _ (PP _ _ _ (61, [(0, .ref o0), (2, .int v2_5)], [], w9))
    refine s_aload rfl rfl ?_
    refine s_get6 rfl hT9 ho0 ?_
    refine s_callZ [.ref 1] [] rfl rfl (Nat.le_of_ble_eq_true rfl) (ev_60 (d := d) (by omega) hT9 ist_1) (fun r11 w10 hT10 => ?_)
    refine sp_lt (fun z12 hz12 => ?_)
    refine s_dia (76, [(0, .ref o0), (2, .int v2_5)], [.int z12], w10) ?_ (fun hk13 => ?_)
    · exact s_retI rfl rfl hT10 (fun _ _ h => h)
    · by_cases h14 : r11 = true
      · refine s_if0 rfl (zb_eq0 h14) ?_
        refine s_iload rfl rfl ?_
        refine s_goto rfl ?_
        refine s_cong ?_ hk13
        (rw [hz12, if_pos h14])
      · refine s_if1 rfl (zb_eq1 h14) ?_
        refine s_const rfl ?_
        refine s_cong ?_ hk13
        (rw [hz12, if_neg h14])
  · refine sp_ite (fun h15 => ?_) (fun h15 => ?_)
    · refine s_ic0 rfl (zc_ge0 h15) ?_
      refine s_aload rfl rfl ?_
      refine s_get6 rfl hT7 ho0 ?_
      refine s_callZ [.ref 1] [] rfl rfl (Nat.le_of_ble_eq_true rfl) (ev_30 (d := d) (by omega) hT7 ist_1) (fun r17 w16 hT16 => ?_)
      refine sp_ite (fun h18 => ?_) (fun h18 => ?_)
      · refine s_if1 rfl (zb_ne1 h18) ?_
        exact s_fgt _ (subl_c rfl (subl_c rfl (subl_n))) (hj8 () w16 hT16)
      · refine s_if0 rfl (zb_ne0 h18) ?_
        refine s_aload rfl rfl ?_
        refine s_aload rfl rfl ?_
        refine s_callZ [.ref o0, .ref o1] [] rfl rfl (Nat.le_of_ble_eq_true rfl) (ev_32 (d := d) (by omega) hT16 ho0 ho1) (fun r20 w19 hT19 => ?_)
        refine sp_ite (fun h21 => ?_) (fun h21 => ?_)
        · refine s_if0 rfl (zb_eq0 h21) ?_
          refine s_aload rfl rfl ?_
          refine s_get6 rfl hT19 ho0 ?_
          refine s_const rfl ?_
          refine s_callZ [.ref 1, .int 59] [] rfl rfl (Nat.le_of_ble_eq_true rfl) (ev_58 (d := d) (by omega) hT19 ist_1) (fun r23 w22 hT22 => ?_)
          refine sp_ite (fun h24 => ?_) (fun h24 => ?_)
          · refine s_if1 rfl (zb_ne1 h24) ?_
            refine s_iincF (fun v2_25 => [(0, .ref o0), (1, .ref o1), (2, .int v2_25)]) rfl rfl (fun _ => subl_c rfl (subl_c rfl (subl_c rfl (subl_n)))) (fun v2_25 => ?_)
            refine s_goto rfl ?_
            exact s_back (lvL := lvL6) (s' := v2_25) (subl_c rfl (subl_c rfl (subl_c rfl (subl_n)))) hT22 (fun _ _ h => h)
          · refine s_if0 rfl (zb_ne0 h24) ?_
            refine s_const rfl ?_
            exact s_retI rfl rfl hT22 (fun _ _ h => h)
        · refine s_if1 rfl (zb_eq1 h21) ?_
          refine s_const rfl ?_
          exact s_retI rfl rfl hT19 (fun _ _ h => h)
    · refine s_ic1 rfl (zc_ge1 h15) ?_
      exact s_fgt _ (subl_c rfl (subl_c rfl (subl_n))) (hj8 () w7 hT7)
/-- RugReader$Rug.clear()V -/
def sh_61 (o0 : Nat) (w : Wd) : Option (Unit × Wd) := stI w o0 0 0 (fun w1 => itM (fun (v1_2 : Int32) (w4 : Wd) => if v1_2 < 7776 then (gd (ib v1_2 7776) (stI w4 (o0 + 1) (ix v1_2) 0 (fun w6 => lt (v1_2 + 1 : Int32) (fun v1_7 => some (.inl v1_7, w6))))) else (itM (fun (v1_8 : Int32) (w10 : Wd) => if v1_8 < 1296 then (gd (ib v1_8 1296) (stI w10 (o0 + 2) (ix v1_8) 0 (fun w12 => lt (v1_8 + 1 : Int32) (fun v1_13 => some (.inl v1_13, w12))))) else (itM (fun (v1_14 : Int32) (w16 : Wd) => if v1_14 < 144 then (gd (ib v1_14 144) (stI w16 (o0 + 3) (ix v1_14) (-1) (fun w18 => lt (v1_14 + 1 : Int32) (fun v1_19 => some (.inl v1_19, w18))))) else (itM (fun (v1_20 : Int32) (w22 : Wd) => if v1_20 < 6 then (gd (ib v1_20 6) (stI w22 (o0 + 7) (ix v1_20) 0 (fun w24 => lt (v1_20 + 1 : Int32) (fun v1_25 => some (.inl v1_25, w24))))) else (some (.inr (.inr (.inr (.inr (())))), w22))) FU 0 w16)) FU 0 w10)) FU 0 w4)) FU 0 w1)
set_option maxRecDepth 20000 in
set_option maxHeartbeats 4000000 in
theorem ev_61 {d : Nat} (hd : 1 ≤ d) {o0 : Nat} {w : Wd} (hT : TY w) (ho0 : ist o0 5) : sp (sh_61 o0 w) (fun r w' => TY w' ∧ Ev d 61 [.ref o0] w (cvV r) w') := by
  obtain ⟨d, rfl⟩ : ∃ d', d = d' + 1 := ⟨d - 1, by omega⟩
  refine ev_of (M := M61) zin_61 rfl (by decide) rfl (Nat.le_of_ble_eq_true rfl) (Or.inr ⟨o0, _, rfl, ho0⟩) hT ?_
  show sp _ (PP (Ev d) M61 (KR cvV) (0, [(0, .ref o0)], [], w))
  unfold sh_61
  refine s_aload rfl rfl ?_
  refine s_const rfl ?_
  refine s_putI rfl hT ho0 rfl (fun w1 hT1 => ?_)
  refine s_const rfl ?_
  refine s_istoreF [(0, .ref o0), (1, .int 0)] rfl (subl_c rfl (subl_c rfl (subl_n))) ?_
  let lvL3 : Int32 → List (Nat × Value) := fun s29 => [(0, .ref o0), (1, .int s29)]
  refine s_loop lvL3 (subl_c rfl (subl_c rfl (subl_n))) hT1 (fun v1_2 w4 hT4 => ?_)
  show sp _ (PP _ _ _ (7, [(0, .ref o0), (1, .int v1_2)], [], w4))
  refine s_iload rfl rfl ?_
  refine s_const rfl ?_
  refine sp_ite (fun h5 => ?_) (fun h5 => ?_)
  · refine s_ic0 rfl (zc_ge0 h5) ?_
    refine s_aload rfl rfl ?_
    refine s_getF rfl hT4 ho0 rfl ?_
    refine s_iload rfl rfl ?_
    refine s_const rfl ?_
    refine s_iast rfl hT4 (of_5_1 ho0) (fun w6 hT6 => ?_)
    refine s_iincF (fun v1_7 => [(0, .ref o0), (1, .int v1_7)]) rfl rfl (fun _ => subl_c rfl (subl_c rfl (subl_n))) (fun v1_7 => ?_)
    refine s_goto rfl ?_
    exact s_back (lvL := lvL3) (s' := v1_7) (subl_c rfl (subl_c rfl (subl_n))) hT6 (fun _ _ h => h)
  · refine s_ic1 rfl (zc_ge1 h5) ?_
    refine s_const rfl ?_
    refine s_istoreF [(0, .ref o0), (1, .int 0)] rfl (subl_c rfl (subl_c rfl (subl_n))) ?_
    let lvL9 : Int32 → List (Nat × Value) := fun s28 => [(0, .ref o0), (1, .int s28)]
    refine s_loop lvL9 (subl_c rfl (subl_c rfl (subl_n))) hT4 (fun v1_8 w10 hT10 => ?_)
    show sp _ (PP _ _ _ (29, [(0, .ref o0), (1, .int v1_8)], [], w10))
    refine s_iload rfl rfl ?_
    refine s_const rfl ?_
    refine sp_ite (fun h11 => ?_) (fun h11 => ?_)
    · refine s_ic0 rfl (zc_ge0 h11) ?_
      refine s_aload rfl rfl ?_
      refine s_getF rfl hT10 ho0 rfl ?_
      refine s_iload rfl rfl ?_
      refine s_const rfl ?_
      refine s_iast rfl hT10 (of_5_2 ho0) (fun w12 hT12 => ?_)
      refine s_iincF (fun v1_13 => [(0, .ref o0), (1, .int v1_13)]) rfl rfl (fun _ => subl_c rfl (subl_c rfl (subl_n))) (fun v1_13 => ?_)
      refine s_goto rfl ?_
      exact s_back (lvL := lvL9) (s' := v1_13) (subl_c rfl (subl_c rfl (subl_n))) hT12 (fun _ _ h => h)
    · refine s_ic1 rfl (zc_ge1 h11) ?_
      refine s_const rfl ?_
      refine s_istoreF [(0, .ref o0), (1, .int 0)] rfl (subl_c rfl (subl_c rfl (subl_n))) ?_
      let lvL15 : Int32 → List (Nat × Value) := fun s27 => [(0, .ref o0), (1, .int s27)]
      refine s_loop lvL15 (subl_c rfl (subl_c rfl (subl_n))) hT10 (fun v1_14 w16 hT16 => ?_)
      show sp _ (PP _ _ _ (51, [(0, .ref o0), (1, .int v1_14)], [], w16))
      refine s_iload rfl rfl ?_
      refine s_const rfl ?_
      refine sp_ite (fun h17 => ?_) (fun h17 => ?_)
      · refine s_ic0 rfl (zc_ge0 h17) ?_
        refine s_aload rfl rfl ?_
        refine s_getF rfl hT16 ho0 rfl ?_
        refine s_iload rfl rfl ?_
        refine s_const rfl ?_
        refine s_iast rfl hT16 (of_5_3 ho0) (fun w18 hT18 => ?_)
        refine s_iincF (fun v1_19 => [(0, .ref o0), (1, .int v1_19)]) rfl rfl (fun _ => subl_c rfl (subl_c rfl (subl_n))) (fun v1_19 => ?_)
        refine s_goto rfl ?_
        exact s_back (lvL := lvL15) (s' := v1_19) (subl_c rfl (subl_c rfl (subl_n))) hT18 (fun _ _ h => h)
      · refine s_ic1 rfl (zc_ge1 h17) ?_
        refine s_const rfl ?_
        refine s_istoreF [(0, .ref o0), (1, .int 0)] rfl (subl_c rfl (subl_c rfl (subl_n))) ?_
        let lvL21 : Int32 → List (Nat × Value) := fun s26 => [(0, .ref o0), (1, .int s26)]
        refine s_loop lvL21 (subl_c rfl (subl_c rfl (subl_n))) hT16 (fun v1_20 w22 hT22 => ?_)
        show sp _ (PP _ _ _ (73, [(0, .ref o0), (1, .int v1_20)], [], w22))
        refine s_iload rfl rfl ?_
        refine s_const rfl ?_
        refine sp_ite (fun h23 => ?_) (fun h23 => ?_)
        · refine s_ic0 rfl (zc_ge0 h23) ?_
          refine s_aload rfl rfl ?_
          refine s_getF rfl hT22 ho0 rfl ?_
          refine s_iload rfl rfl ?_
          refine s_const rfl ?_
          refine s_iast rfl hT22 (of_5_7 ho0) (fun w24 hT24 => ?_)
          refine s_iincF (fun v1_25 => [(0, .ref o0), (1, .int v1_25)]) rfl rfl (fun _ => subl_c rfl (subl_c rfl (subl_n))) (fun v1_25 => ?_)
          refine s_goto rfl ?_
          exact s_back (lvL := lvL21) (s' := v1_25) (subl_c rfl (subl_c rfl (subl_n))) hT24 (fun _ _ h => h)
        · refine s_ic1 rfl (zc_ge1 h23) ?_
          exact s_retV rfl rfl hT22 (fun _ _ h => h)
/-- RugReader$Sentence.clear()V -/
def sh_62 (o0 : Nat) (w : Wd) : Option (Unit × Wd) := stI w o0 0 0 (fun w1 => stI w1 o0 1 0 (fun w2 => some ((), w2)))
set_option maxRecDepth 20000 in
set_option maxHeartbeats 4000000 in
theorem ev_62 {d : Nat} (hd : 1 ≤ d) {o0 : Nat} {w : Wd} (hT : TY w) (ho0 : ist o0 6) : sp (sh_62 o0 w) (fun r w' => TY w' ∧ Ev d 62 [.ref o0] w (cvV r) w') := by
  obtain ⟨d, rfl⟩ : ∃ d', d = d' + 1 := ⟨d - 1, by omega⟩
  refine ev_of (M := M62) zin_62 rfl (by decide) rfl (Nat.le_of_ble_eq_true rfl) (Or.inr ⟨o0, _, rfl, ho0⟩) hT ?_
  show sp _ (PP (Ev d) M62 (KR cvV) (0, [(0, .ref o0)], [], w))
  unfold sh_62
  refine s_aload rfl rfl ?_
  refine s_const rfl ?_
  refine s_putI rfl hT ho0 rfl (fun w1 hT1 => ?_)
  refine s_aload rfl rfl ?_
  refine s_const rfl ?_
  refine s_putI rfl hT1 ho0 rfl (fun w2 hT2 => ?_)
  exact s_retV rfl rfl hT2 (fun _ _ h => h)
/-- RugReader.house()I -/
def sh_15 (o0 : Nat) (w : Wd) : Option (Int32 × Wd) := der (wR w o0 3) (fun a1 => cl (sh_16 (o0 + 6) a1 w) (fun r3 w2 => stI w2 (o0 + 1) 1 0 (fun w4 => if r3 = (-1) then (some ((-1) - (wI w4 (o0 + 1) 3), w4)) else (der (wR w4 o0 2) (fun a6 => der (wR w4 o0 3) (fun a7 => stR w4 o0 2 (some a7) (fun w8 => stR w8 o0 3 (some a6) (fun w9 => cl (sh_61 (o0 + 35) w9) (fun _ w10 => der (wR w10 o0 4) (fun a12 => cl (sh_62 a12 w10) (fun _ w13 => stI w13 o0 9 0 (fun w15 => some (r3, w15)))))))))))))
set_option maxRecDepth 20000 in
set_option maxHeartbeats 4000000 in
theorem ev_15 {d : Nat} (hd : 8 ≤ d) {o0 : Nat} {w : Wd} (hT : TY w) (ho0 : ist o0 9) : sp (sh_15 o0 w) (fun r w' => TY w' ∧ Ev d 15 [.ref o0] w (cvI r) w') := by
  obtain ⟨d, rfl⟩ : ∃ d', d = d' + 1 := ⟨d - 1, by omega⟩
  refine ev_of (M := M15) zin_15 rfl (by decide) rfl (Nat.le_of_ble_eq_true rfl) (Or.inr ⟨o0, _, rfl, ho0⟩) hT ?_
  show sp _ (PP (Ev d) M15 (KR cvI) (0, [(0, .ref o0)], [], w))
  unfold sh_15
  refine s_aload rfl rfl ?_
  refine s_getF rfl hT ho0 rfl ?_
  refine s_aload rfl rfl ?_
  refine s_getD rfl hT ho0 (by decide) rfl (fun a1 ha1 => ?_)
  refine s_callI [.ref (o0 + 6), .ref a1] [] rfl rfl (Nat.le_of_ble_eq_true rfl) (ev_16 (d := d) (by omega) hT (of_9_1 ho0) ha1) (fun r3 w2 hT2 => ?_)
  refine s_istoreF [(0, .ref o0), (1, .int r3)] rfl (subl_c rfl (subl_c rfl (subl_n))) ?_
  refine s_aload rfl rfl ?_
  refine s_getF rfl hT2 ho0 rfl ?_
  refine s_const rfl ?_
  refine s_putI rfl hT2 (of_9_0 ho0) rfl (fun w4 hT4 => ?_)
  refine s_iload rfl rfl ?_
  refine s_const rfl ?_
  refine sp_ite (fun h5 => ?_) (fun h5 => ?_)
  · refine s_ic0 rfl (zc_ne0 h5) ?_
    refine s_const rfl ?_
    refine s_aload rfl rfl ?_
    refine s_getF rfl hT4 ho0 rfl ?_
    refine s_getI rfl hT4 (of_9_0 ho0) ?_
    refine s_bin rfl rfl ?_
    exact s_retI rfl rfl hT4 (fun _ _ h => h)
  · refine s_ic1 rfl (zc_ne1 h5) ?_
    refine s_aload rfl rfl ?_
    refine s_getD rfl hT4 ho0 (by decide) rfl (fun a6 ha6 => ?_)
    refine s_astoreF [(0, .ref o0), (1, .int r3), (2, .ref a6)] rfl (subl_c rfl (subl_c rfl (subl_c rfl (subl_n)))) ?_
    refine s_aload rfl rfl ?_
    refine s_aload rfl rfl ?_
    refine s_getD rfl hT4 ho0 (by decide) rfl (fun a7 ha7 => ?_)
    refine s_putR rfl hT4 ho0 rfl (by decide) rfl ha7 (fun w8 hT8 => ?_)
    refine s_aload rfl rfl ?_
    refine s_aload rfl rfl ?_
    refine s_putR rfl hT8 ho0 rfl (by decide) rfl ha6 (fun w9 hT9 => ?_)
    refine s_aload rfl rfl ?_
    refine s_getF rfl hT9 ho0 rfl ?_
    refine s_callV [.ref (o0 + 35)] [] rfl rfl (Nat.le_of_ble_eq_true rfl) (ev_61 (d := d) (by omega) hT9 (of_9_6 ho0)) (fun _ w10 hT10 => ?_)
    refine s_aload rfl rfl ?_
    refine s_getD rfl hT10 ho0 (by decide) rfl (fun a12 ha12 => ?_)
    refine s_callV [.ref a12] [] rfl rfl (Nat.le_of_ble_eq_true rfl) (ev_62 (d := d) (by omega) hT10 ha12) (fun _ w13 hT13 => ?_)
    refine s_aload rfl rfl ?_
    refine s_const rfl ?_
    refine s_putI rfl hT13 ho0 rfl (fun w15 hT15 => ?_)
    refine s_iload rfl rfl ?_
    exact s_retI rfl rfl hT15 (fun _ _ h => h)
/-- RugReader.fault()I -/
def sh_63 (o0 : Nat) (w : Wd) : Option (Int32 × Wd) := some (wI w (o0 + 1) 2, w)
set_option maxRecDepth 20000 in
set_option maxHeartbeats 4000000 in
theorem ev_63 {d : Nat} (hd : 1 ≤ d) {o0 : Nat} {w : Wd} (hT : TY w) (ho0 : ist o0 9) : sp (sh_63 o0 w) (fun r w' => TY w' ∧ Ev d 63 [.ref o0] w (cvI r) w') := by
  obtain ⟨d, rfl⟩ : ∃ d', d = d' + 1 := ⟨d - 1, by omega⟩
  refine ev_of (M := M63) zin_63 rfl (by decide) rfl (Nat.le_of_ble_eq_true rfl) (Or.inr ⟨o0, _, rfl, ho0⟩) hT ?_
  show sp _ (PP (Ev d) M63 (KR cvI) (0, [(0, .ref o0)], [], w))
  unfold sh_63
  refine s_aload rfl rfl ?_
  refine s_getF rfl hT ho0 rfl ?_
  refine s_getI rfl hT (of_9_0 ho0) ?_
  exact s_retI rfl rfl hT (fun _ _ h => h)
/-- RugReader$House.isWay(I)Z -/
def sh_67 (o0 : Nat) (p1 : Int32) (w : Wd) : Option (Bool × Wd) := lt (if 0 ≤ p1 then (if p1 < wI w o0 4 then (if p1 < 6 then true else false) else false) else false : Bool) (fun z1 => some (z1, w))
set_option maxRecDepth 20000 in
set_option maxHeartbeats 4000000 in
theorem ev_67 {d : Nat} (hd : 1 ≤ d) {o0 : Nat} {p1 : Int32} {w : Wd} (hT : TY w) (ho0 : ist o0 1) : sp (sh_67 o0 p1 w) (fun r w' => TY w' ∧ Ev d 67 [.ref o0, .int p1] w (cvZ r) w') := by
  obtain ⟨d, rfl⟩ : ∃ d', d = d' + 1 := ⟨d - 1, by omega⟩
  refine ev_of (M := M67) zin_67 rfl (by decide) rfl (Nat.le_of_ble_eq_true rfl) (Or.inr ⟨o0, _, rfl, ho0⟩) hT ?_
  show sp _ (PP (Ev d) M67 (KR cvZ) (0, [(0, .ref o0), (1, .int p1)], [], w))
  unfold sh_67
  refine s_iload rfl rfl ?_
  refine sp_lt (fun z1 hz1 => ?_)
  refine s_dia (23, [(0, .ref o0), (1, .int p1)], [.int (bi z1)], w) ?_ (fun hk2 => ?_)
  · exact s_retZ (z := z1) rfl rfl hT (fun _ _ h => h)
  · by_cases h3 : 0 ≤ p1
    · refine s_if0 rfl (zc_lt0 h3) ?_
      refine s_iload rfl rfl ?_
      refine s_aload rfl rfl ?_
      refine s_getI rfl hT ho0 ?_
      by_cases h4 : p1 < wI w o0 4
      · refine s_ic0 rfl (zc_ge0 h4) ?_
        refine s_iload rfl rfl ?_
        refine s_const rfl ?_
        by_cases h5 : p1 < 6
        · refine s_ic0 rfl (zc_ge0 h5) ?_
          refine s_const rfl ?_
          refine s_goto rfl ?_
          refine s_cong ?_ hk2
          (rw [hz1, if_pos h3, if_pos h4, if_pos h5]; rfl)
        · refine s_ic1 rfl (zc_ge1 h5) ?_
          refine s_const rfl ?_
          refine s_cong ?_ hk2
          (rw [hz1, if_pos h3, if_pos h4, if_neg h5]; rfl)
      · refine s_ic1 rfl (zc_ge1 h4) ?_
        refine s_const rfl ?_
        refine s_cong ?_ hk2
        (rw [hz1, if_pos h3, if_neg h4]; rfl)
    · refine s_if1 rfl (zc_lt1 h3) ?_
      refine s_const rfl ?_
      refine s_cong ?_ hk2
      (rw [hz1, if_neg h3]; rfl)
/-- RugReader$House.lengthOf(I)I -/
def sh_66 (o0 : Nat) (p1 : Int32) (w : Wd) : Option (Int32 × Wd) := cl (sh_67 o0 p1 w) (fun r2 w1 => if r2 = true then (gd (ib p1 6) (some (wI w1 (o0 + 6) (ix p1), w1))) else (some (0, w1)))
set_option maxRecDepth 20000 in
set_option maxHeartbeats 4000000 in
theorem ev_66 {d : Nat} (hd : 2 ≤ d) {o0 : Nat} {p1 : Int32} {w : Wd} (hT : TY w) (ho0 : ist o0 1) : sp (sh_66 o0 p1 w) (fun r w' => TY w' ∧ Ev d 66 [.ref o0, .int p1] w (cvI r) w') := by
  obtain ⟨d, rfl⟩ : ∃ d', d = d' + 1 := ⟨d - 1, by omega⟩
  refine ev_of (M := M66) zin_66 rfl (by decide) rfl (Nat.le_of_ble_eq_true rfl) (Or.inr ⟨o0, _, rfl, ho0⟩) hT ?_
  show sp _ (PP (Ev d) M66 (KR cvI) (0, [(0, .ref o0), (1, .int p1)], [], w))
  unfold sh_66
  refine s_aload rfl rfl ?_
  refine s_iload rfl rfl ?_
  refine s_callZ [.ref o0, .int p1] [] rfl rfl (Nat.le_of_ble_eq_true rfl) (ev_67 (d := d) (by omega) hT ho0) (fun r2 w1 hT1 => ?_)
  refine sp_ite (fun h3 => ?_) (fun h3 => ?_)
  · refine s_if0 rfl (zb_eq0 h3) ?_
    refine s_aload rfl rfl ?_
    refine s_getF rfl hT1 ho0 rfl ?_
    refine s_iload rfl rfl ?_
    refine s_iald rfl hT1 (of_1_12 ho0) ?_
    refine s_goto rfl ?_
    exact s_retI rfl rfl hT1 (fun _ _ h => h)
  · refine s_if1 rfl (zb_eq1 h3) ?_
    refine s_const rfl ?_
    exact s_retI rfl rfl hT1 (fun _ _ h => h)
/-- RugReader$House.tuftOf(II)I -/
def sh_65 (o0 : Nat) (p1 : Int32) (p2 : Int32) (w : Wd) : Option (Int32 × Wd) := if 0 ≤ p2 then (cl (sh_66 o0 p1 w) (fun r3 w2 => if p2 < r3 then (if p2 < 41 then (gd (ib ((p1 * 41) + p2) 246) (some (wI w2 (o0 + 7) (ix ((p1 * 41) + p2)), w2))) else (some ((-1), w2))) else (some ((-1), w2)))) else (some ((-1), w))
set_option maxRecDepth 20000 in
set_option maxHeartbeats 4000000 in
theorem ev_65 {d : Nat} (hd : 3 ≤ d) {o0 : Nat} {p1 : Int32} {p2 : Int32} {w : Wd} (hT : TY w) (ho0 : ist o0 1) : sp (sh_65 o0 p1 p2 w) (fun r w' => TY w' ∧ Ev d 65 [.ref o0, .int p1, .int p2] w (cvI r) w') := by
  obtain ⟨d, rfl⟩ : ∃ d', d = d' + 1 := ⟨d - 1, by omega⟩
  refine ev_of (M := M65) zin_65 rfl (by decide) rfl (Nat.le_of_ble_eq_true rfl) (Or.inr ⟨o0, _, rfl, ho0⟩) hT ?_
  show sp _ (PP (Ev d) M65 (KR cvI) (0, [(0, .ref o0), (1, .int p1), (2, .int p2)], [], w))
  unfold sh_65
  refine s_iload rfl rfl ?_
  refine sp_ite (fun h1 => ?_) (fun h1 => ?_)
  · refine s_if0 rfl (zc_lt0 h1) ?_
    refine s_iload rfl rfl ?_
    refine s_aload rfl rfl ?_
    refine s_iload rfl rfl ?_
    refine s_callI [.ref o0, .int p1] [.int p2] rfl rfl (Nat.le_of_ble_eq_true rfl) (ev_66 (d := d) (by omega) hT ho0) (fun r3 w2 hT2 => ?_)
    refine sp_ite (fun h4 => ?_) (fun h4 => ?_)
    · refine s_ic0 rfl (zc_ge0 h4) ?_
      refine s_iload rfl rfl ?_
      refine s_const rfl ?_
      refine sp_ite (fun h5 => ?_) (fun h5 => ?_)
      · refine s_ic0 rfl (zc_ge0 h5) ?_
        refine s_aload rfl rfl ?_
        refine s_getF rfl hT2 ho0 rfl ?_
        refine s_iload rfl rfl ?_
        refine s_const rfl ?_
        refine s_bin rfl rfl ?_
        refine s_iload rfl rfl ?_
        refine s_bin rfl rfl ?_
        refine s_iald rfl hT2 (of_1_13 ho0) ?_
        refine s_goto rfl ?_
        exact s_retI rfl rfl hT2 (fun _ _ h => h)
      · refine s_ic1 rfl (zc_ge1 h5) ?_
        refine s_const rfl ?_
        exact s_retI rfl rfl hT2 (fun _ _ h => h)
    · refine s_ic1 rfl (zc_ge1 h4) ?_
      refine s_const rfl ?_
      exact s_retI rfl rfl hT2 (fun _ _ h => h)
  · refine s_if1 rfl (zc_lt1 h1) ?_
    refine s_const rfl ?_
    exact s_retI rfl rfl hT (fun _ _ h => h)
/-- RugReader.way(II)I -/
def sh_64 (o0 : Nat) (p1 : Int32) (p2 : Int32) (w : Wd) : Option (Int32 × Wd) := der (wR w o0 2) (fun a1 => cl (sh_65 a1 p1 p2 w) (fun r3 w2 => some (r3, w2)))
set_option maxRecDepth 20000 in
set_option maxHeartbeats 4000000 in
theorem ev_64 {d : Nat} (hd : 4 ≤ d) {o0 : Nat} {p1 : Int32} {p2 : Int32} {w : Wd} (hT : TY w) (ho0 : ist o0 9) : sp (sh_64 o0 p1 p2 w) (fun r w' => TY w' ∧ Ev d 64 [.ref o0, .int p1, .int p2] w (cvI r) w') := by
  obtain ⟨d, rfl⟩ : ∃ d', d = d' + 1 := ⟨d - 1, by omega⟩
  refine ev_of (M := M64) zin_64 rfl (by decide) rfl (Nat.le_of_ble_eq_true rfl) (Or.inr ⟨o0, _, rfl, ho0⟩) hT ?_
  show sp _ (PP (Ev d) M64 (KR cvI) (0, [(0, .ref o0), (1, .int p1), (2, .int p2)], [], w))
  unfold sh_64
  refine s_aload rfl rfl ?_
  refine s_getD rfl hT ho0 (by decide) rfl (fun a1 ha1 => ?_)
  refine s_iload rfl rfl ?_
  refine s_iload rfl rfl ?_
  refine s_callI [.ref a1, .int p1, .int p2] [] rfl rfl (Nat.le_of_ble_eq_true rfl) (ev_65 (d := d) (by omega) hT ha1) (fun r3 w2 hT2 => ?_)
  exact s_retI rfl rfl hT2 (fun _ _ h => h)
/-- RugReader$House.isPerson(I)Z -/
def sh_69 (o0 : Nat) (p1 : Int32) (w : Wd) : Option (Bool × Wd) := lt (if 0 ≤ p1 then (if p1 < wI w o0 3 then (if p1 < 6 then true else false) else false) else false : Bool) (fun z1 => some (z1, w))
set_option maxRecDepth 20000 in
set_option maxHeartbeats 4000000 in
theorem ev_69 {d : Nat} (hd : 1 ≤ d) {o0 : Nat} {p1 : Int32} {w : Wd} (hT : TY w) (ho0 : ist o0 1) : sp (sh_69 o0 p1 w) (fun r w' => TY w' ∧ Ev d 69 [.ref o0, .int p1] w (cvZ r) w') := by
  obtain ⟨d, rfl⟩ : ∃ d', d = d' + 1 := ⟨d - 1, by omega⟩
  refine ev_of (M := M69) zin_69 rfl (by decide) rfl (Nat.le_of_ble_eq_true rfl) (Or.inr ⟨o0, _, rfl, ho0⟩) hT ?_
  show sp _ (PP (Ev d) M69 (KR cvZ) (0, [(0, .ref o0), (1, .int p1)], [], w))
  unfold sh_69
  refine s_iload rfl rfl ?_
  refine sp_lt (fun z1 hz1 => ?_)
  refine s_dia (23, [(0, .ref o0), (1, .int p1)], [.int (bi z1)], w) ?_ (fun hk2 => ?_)
  · exact s_retZ (z := z1) rfl rfl hT (fun _ _ h => h)
  · by_cases h3 : 0 ≤ p1
    · refine s_if0 rfl (zc_lt0 h3) ?_
      refine s_iload rfl rfl ?_
      refine s_aload rfl rfl ?_
      refine s_getI rfl hT ho0 ?_
      by_cases h4 : p1 < wI w o0 3
      · refine s_ic0 rfl (zc_ge0 h4) ?_
        refine s_iload rfl rfl ?_
        refine s_const rfl ?_
        by_cases h5 : p1 < 6
        · refine s_ic0 rfl (zc_ge0 h5) ?_
          refine s_const rfl ?_
          refine s_goto rfl ?_
          refine s_cong ?_ hk2
          (rw [hz1, if_pos h3, if_pos h4, if_pos h5]; rfl)
        · refine s_ic1 rfl (zc_ge1 h5) ?_
          refine s_const rfl ?_
          refine s_cong ?_ hk2
          (rw [hz1, if_pos h3, if_pos h4, if_neg h5]; rfl)
      · refine s_ic1 rfl (zc_ge1 h4) ?_
        refine s_const rfl ?_
        refine s_cong ?_ hk2
        (rw [hz1, if_pos h3, if_neg h4]; rfl)
    · refine s_if1 rfl (zc_lt1 h3) ?_
      refine s_const rfl ?_
      refine s_cong ?_ hk2
      (rw [hz1, if_neg h3]; rfl)
/-- java/lang/Math.floorMod(II)I -/
def sh_71 (p0 : Int32) (p1 : Int32) (w : Wd) : Option (Int32 × Wd) := gd (decide (¬ p1 = 0)) (lt (zrem p0 p1 : Int32) (fun v2_2 => if p0 ^^^ p1 < 0 then (if v2_2 = 0 then (some (v2_2, w)) else (some (v2_2 + p1, w))) else (some (v2_2, w))))
set_option maxRecDepth 20000 in
set_option maxHeartbeats 4000000 in
theorem ev_71 {d : Nat} (hd : 1 ≤ d) {p0 : Int32} {p1 : Int32} {w : Wd} (hT : TY w)  : sp (sh_71 p0 p1 w) (fun r w' => TY w' ∧ Ev d 71 [.int p0, .int p1] w (cvI r) w') := by
  obtain ⟨d, rfl⟩ : ∃ d', d = d' + 1 := ⟨d - 1, by omega⟩
  refine ev_of (M := M71) zin_71 rfl (by decide) rfl (Nat.le_of_ble_eq_true rfl) (Or.inl rfl) hT ?_
  show sp _ (PP (Ev d) M71 (KR cvI) (0, [(0, .int p0), (1, .int p1)], [], w))
  unfold sh_71
  refine s_iload rfl rfl ?_
  refine s_iload rfl rfl ?_
  refine sp_gd (fun h1 => ?_)
  refine s_rem rfl (of_decide_eq_true h1) ?_
  refine s_nmI (fun v2_2 => ?_)
  refine s_istoreF [(0, .int p0), (1, .int p1), (2, .int v2_2)] rfl (subl_c rfl (subl_c rfl (subl_c rfl (subl_n)))) ?_
  refine s_iload rfl rfl ?_
  refine s_iload rfl rfl ?_
  refine s_bin rfl rfl ?_
  refine sp_ite (fun h3 => ?_) (fun h3 => ?_)
  · refine s_if0 rfl (zc_ge0 h3) ?_
    refine s_iload rfl rfl ?_
    refine sp_ite (fun h4 => ?_) (fun h4 => ?_)
    · refine s_if1 rfl (zc_eq1 h4) ?_
      refine s_iload rfl rfl ?_
      exact s_retI rfl rfl hT (fun _ _ h => h)
    · refine s_if0 rfl (zc_eq0 h4) ?_
      refine s_iload rfl rfl ?_
      refine s_iload rfl rfl ?_
      refine s_bin rfl rfl ?_
      exact s_retI rfl rfl hT (fun _ _ h => h)
  · refine s_if1 rfl (zc_ge1 h3) ?_
    refine s_iload rfl rfl ?_
    exact s_retI rfl rfl hT (fun _ _ h => h)
/-- RugReader$Rug.copyFrom(LRugReader$Rug;)V -/
def sh_72 (o0 : Nat) (o1 : Nat) (w : Wd) : Option (Unit × Wd) := stI w o0 0 (wI w o1 0) (fun w1 => cpI w1 (o1 + 1) 7776 0 (o0 + 1) 7776 0 7776 (fun w2 => cpI w2 (o1 + 2) 1296 0 (o0 + 2) 1296 0 1296 (fun w3 => cpI w3 (o1 + 3) 144 0 (o0 + 3) 144 0 144 (fun w4 => cpI w4 (o1 + 4) 144 0 (o0 + 4) 144 0 144 (fun w5 => cpI w5 (o1 + 5) 144 0 (o0 + 5) 144 0 144 (fun w6 => cpI w6 (o1 + 6) 144 0 (o0 + 6) 144 0 144 (fun w7 => cpI w7 (o1 + 7) 6 0 (o0 + 7) 6 0 6 (fun w8 => some ((), w8)))))))))
set_option maxRecDepth 20000 in
set_option maxHeartbeats 4000000 in
theorem ev_72 {d : Nat} (hd : 1 ≤ d) {o0 : Nat} {o1 : Nat} {w : Wd} (hT : TY w) (ho0 : ist o0 5) (ho1 : ist o1 5) : sp (sh_72 o0 o1 w) (fun r w' => TY w' ∧ Ev d 72 [.ref o0, .ref o1] w (cvV r) w') := by
  obtain ⟨d, rfl⟩ : ∃ d', d = d' + 1 := ⟨d - 1, by omega⟩
  refine ev_of (M := M72) zin_72 rfl (by decide) rfl (Nat.le_of_ble_eq_true rfl) (Or.inr ⟨o0, _, rfl, ho0⟩) hT ?_
  show sp _ (PP (Ev d) M72 (KR cvV) (0, [(0, .ref o0), (1, .ref o1)], [], w))
  unfold sh_72
  refine s_aload rfl rfl ?_
  refine s_aload rfl rfl ?_
  refine s_getI rfl hT ho1 ?_
  refine s_putI rfl hT ho0 rfl (fun w1 hT1 => ?_)
  refine s_aload rfl rfl ?_
  refine s_getF rfl hT1 ho1 rfl ?_
  refine s_const rfl ?_
  refine s_aload rfl rfl ?_
  refine s_getF rfl hT1 ho0 rfl ?_
  refine s_const rfl ?_
  refine s_const rfl ?_
  refine s_cpI rfl hT1 (of_5_1 ho1) (of_5_1 ho0) (Nat.le_of_ble_eq_true rfl) (fun w2 hT2 => ?_)
  refine s_aload rfl rfl ?_
  refine s_getF rfl hT2 ho1 rfl ?_
  refine s_const rfl ?_
  refine s_aload rfl rfl ?_
  refine s_getF rfl hT2 ho0 rfl ?_
  refine s_const rfl ?_
  refine s_const rfl ?_
  refine s_cpI rfl hT2 (of_5_2 ho1) (of_5_2 ho0) (Nat.le_of_ble_eq_true rfl) (fun w3 hT3 => ?_)
  refine s_aload rfl rfl ?_
  refine s_getF rfl hT3 ho1 rfl ?_
  refine s_const rfl ?_
  refine s_aload rfl rfl ?_
  refine s_getF rfl hT3 ho0 rfl ?_
  refine s_const rfl ?_
  refine s_const rfl ?_
  refine s_cpI rfl hT3 (of_5_3 ho1) (of_5_3 ho0) (Nat.le_of_ble_eq_true rfl) (fun w4 hT4 => ?_)
  refine s_aload rfl rfl ?_
  refine s_getF rfl hT4 ho1 rfl ?_
  refine s_const rfl ?_
  refine s_aload rfl rfl ?_
  refine s_getF rfl hT4 ho0 rfl ?_
  refine s_const rfl ?_
  refine s_const rfl ?_
  refine s_cpI rfl hT4 (of_5_4 ho1) (of_5_4 ho0) (Nat.le_of_ble_eq_true rfl) (fun w5 hT5 => ?_)
  refine s_aload rfl rfl ?_
  refine s_getF rfl hT5 ho1 rfl ?_
  refine s_const rfl ?_
  refine s_aload rfl rfl ?_
  refine s_getF rfl hT5 ho0 rfl ?_
  refine s_const rfl ?_
  refine s_const rfl ?_
  refine s_cpI rfl hT5 (of_5_5 ho1) (of_5_5 ho0) (Nat.le_of_ble_eq_true rfl) (fun w6 hT6 => ?_)
  refine s_aload rfl rfl ?_
  refine s_getF rfl hT6 ho1 rfl ?_
  refine s_const rfl ?_
  refine s_aload rfl rfl ?_
  refine s_getF rfl hT6 ho0 rfl ?_
  refine s_const rfl ?_
  refine s_const rfl ?_
  refine s_cpI rfl hT6 (of_5_6 ho1) (of_5_6 ho0) (Nat.le_of_ble_eq_true rfl) (fun w7 hT7 => ?_)
  refine s_aload rfl rfl ?_
  refine s_getF rfl hT7 ho1 rfl ?_
  refine s_const rfl ?_
  refine s_aload rfl rfl ?_
  refine s_getF rfl hT7 ho0 rfl ?_
  refine s_const rfl ?_
  refine s_const rfl ?_
  refine s_cpI rfl hT7 (of_5_7 ho1) (of_5_7 ho0) (Nat.le_of_ble_eq_true rfl) (fun w8 hT8 => ?_)
  exact s_retV rfl rfl hT8 (fun _ _ h => h)
/-- RugReader.keepForUndo()V -/
def sh_70 (o0 : Nat) (w : Wd) : Option (Unit × Wd) := jn (fun (s12 : Unit) (w2 : Wd) => cl (sh_71 ((wI w2 o0 8) + (wI w2 o0 9)) 6 w2) (fun r4 w3 => gd (ib r4 6) (cl (sh_72 (74 + 8 * ix r4) (o0 + 35) w3) (fun _ w6 => stI w6 o0 9 ((wI w6 o0 9) + 1) (fun w8 => some ((), w8)))))) (fun j1 => if wI w o0 9 = 6 then (stI w o0 8 (zrem ((wI w o0 8) + 1) 6) (fun w10 => stI w10 o0 9 ((wI w10 o0 9) - 1) (fun w11 => j1 () w11))) else (j1 () w))
set_option maxRecDepth 20000 in
set_option maxHeartbeats 4000000 in
theorem ev_70 {d : Nat} (hd : 2 ≤ d) {o0 : Nat} {w : Wd} (hT : TY w) (ho0 : ist o0 9) : sp (sh_70 o0 w) (fun r w' => TY w' ∧ Ev d 70 [.ref o0] w (cvV r) w') := by
  obtain ⟨d, rfl⟩ : ∃ d', d = d' + 1 := ⟨d - 1, by omega⟩
  refine ev_of (M := M70) zin_70 rfl (by decide) rfl (Nat.le_of_ble_eq_true rfl) (Or.inr ⟨o0, _, rfl, ho0⟩) hT ?_
  show sp _ (PP (Ev d) M70 (KR cvV) (0, [(0, .ref o0)], [], w))
  unfold sh_70
  refine s_aload rfl rfl ?_
  refine s_getI rfl hT ho0 ?_
  refine s_const rfl ?_
  refine s_jnP (fun (s12 : Unit) w => (32, [(0, .ref o0)], [], w)) (fun s12 w2 hT2 => ?_) (fun j1 hj1 => ?_)
  · show sp _ (PP _ _ _ (32, [(0, .ref o0)], [], w2))
    refine s_aload rfl rfl ?_
    refine s_getF rfl hT2 ho0 rfl ?_
    refine s_aload rfl rfl ?_
    refine s_getI rfl hT2 ho0 ?_
    refine s_aload rfl rfl ?_
    refine s_getI rfl hT2 ho0 ?_
    refine s_bin rfl rfl ?_
    refine s_const rfl ?_
    refine s_callI [.int ((wI w2 o0 8) + (wI w2 o0 9)), .int 6] [.ref (o0 + 43)] rfl rfl (Nat.le_of_ble_eq_true rfl) (ev_71 (d := d) (by omega) hT2 ) (fun r4 w3 hT3 => ?_)
    refine s_earl rfl hT3 ho0 (fun ha5 => ?_)
    refine s_astoreF [(0, .ref o0), (1, .ref (74 + 8 * ix r4))] rfl (subl_c rfl (subl_c rfl (subl_n))) ?_
    refine s_aload rfl rfl ?_
    refine s_null0 rfl ?_
    refine s_aload rfl rfl ?_
    refine s_aload rfl rfl ?_
    refine s_getF rfl hT3 ho0 rfl ?_
    refine s_callV [.ref (74 + 8 * ix r4), .ref (o0 + 35)] [] rfl rfl (Nat.le_of_ble_eq_true rfl) (ev_72 (d := d) (by omega) hT3 ha5 (of_9_6 ho0)) (fun _ w6 hT6 => ?_)
    refine s_aload rfl rfl ?_
    refine s_dup rfl rfl ?_
    refine s_getI rfl hT6 ho0 ?_
    refine s_const rfl ?_
    refine s_bin rfl rfl ?_
    refine s_putI rfl hT6 ho0 rfl (fun w8 hT8 => ?_)
    exact s_retV rfl rfl hT8 (fun _ _ h => h)
  · refine sp_ite (fun h9 => ?_) (fun h9 => ?_)
    · refine s_ic0 rfl (zc_ne0 h9) ?_
      refine s_aload rfl rfl ?_
      refine s_aload rfl rfl ?_
      refine s_getI rfl hT ho0 ?_
      refine s_const rfl ?_
      refine s_bin rfl rfl ?_
      refine s_const rfl ?_
      refine s_rem rfl (by decide) ?_
      refine s_putI rfl hT ho0 rfl (fun w10 hT10 => ?_)
      refine s_aload rfl rfl ?_
      refine s_dup rfl rfl ?_
      refine s_getI rfl hT10 ho0 ?_
      refine s_const rfl ?_
      refine s_bin rfl rfl ?_
      refine s_putI rfl hT10 ho0 rfl (fun w11 hT11 => ?_)
      exact s_fgt _ (subl_c rfl (subl_n)) (hj1 () w11 hT11)
    · refine s_ic1 rfl (zc_ne1 h9) ?_
      exact s_fgt _ (subl_c rfl (subl_n)) (hj1 () w hT)
/-- RugReader$House.soleOf(I)I -/
def sh_73 (o0 : Nat) (p1 : Int32) (w : Wd) : Option (Int32 × Wd) := cl (sh_69 o0 p1 w) (fun r2 w1 => if r2 = true then (gd (ib p1 6) (some (wI w1 (o0 + 2) (ix p1), w1))) else (some ((-1), w1)))
set_option maxRecDepth 20000 in
set_option maxHeartbeats 4000000 in
theorem ev_73 {d : Nat} (hd : 2 ≤ d) {o0 : Nat} {p1 : Int32} {w : Wd} (hT : TY w) (ho0 : ist o0 1) : sp (sh_73 o0 p1 w) (fun r w' => TY w' ∧ Ev d 73 [.ref o0, .int p1] w (cvI r) w') := by
  obtain ⟨d, rfl⟩ : ∃ d', d = d' + 1 := ⟨d - 1, by omega⟩
  refine ev_of (M := M73) zin_73 rfl (by decide) rfl (Nat.le_of_ble_eq_true rfl) (Or.inr ⟨o0, _, rfl, ho0⟩) hT ?_
  show sp _ (PP (Ev d) M73 (KR cvI) (0, [(0, .ref o0), (1, .int p1)], [], w))
  unfold sh_73
  refine s_aload rfl rfl ?_
  refine s_iload rfl rfl ?_
  refine s_callZ [.ref o0, .int p1] [] rfl rfl (Nat.le_of_ble_eq_true rfl) (ev_69 (d := d) (by omega) hT ho0) (fun r2 w1 hT1 => ?_)
  refine sp_ite (fun h3 => ?_) (fun h3 => ?_)
  · refine s_if0 rfl (zb_eq0 h3) ?_
    refine s_aload rfl rfl ?_
    refine s_getF rfl hT1 ho0 rfl ?_
    refine s_iload rfl rfl ?_
    refine s_iald rfl hT1 (of_1_8 ho0) ?_
    refine s_goto rfl ?_
    exact s_retI rfl rfl hT1 (fun _ _ h => h)
  · refine s_if1 rfl (zb_eq1 h3) ?_
    refine s_const rfl ?_
    exact s_retI rfl rfl hT1 (fun _ _ h => h)
/-- RugReader$Rug.isPerson(I)Z -/
def sh_75 (p0 : Int32) (w : Wd) : Option (Bool × Wd) := lt (if 0 ≤ p0 then (if p0 < 6 then true else false) else false : Bool) (fun z1 => some (z1, w))
set_option maxRecDepth 20000 in
set_option maxHeartbeats 4000000 in
theorem ev_75 {d : Nat} (hd : 1 ≤ d) {p0 : Int32} {w : Wd} (hT : TY w)  : sp (sh_75 p0 w) (fun r w' => TY w' ∧ Ev d 75 [.int p0] w (cvZ r) w') := by
  obtain ⟨d, rfl⟩ : ∃ d', d = d' + 1 := ⟨d - 1, by omega⟩
  refine ev_of (M := M75) zin_75 rfl (by decide) rfl (Nat.le_of_ble_eq_true rfl) (Or.inl rfl) hT ?_
  show sp _ (PP (Ev d) M75 (KR cvZ) (0, [(0, .int p0)], [], w))
  unfold sh_75
  refine s_iload rfl rfl ?_
  refine sp_lt (fun z1 hz1 => ?_)
  refine s_dia (15, [(0, .int p0)], [.int (bi z1)], w) ?_ (fun hk2 => ?_)
  · exact s_retZ (z := z1) rfl rfl hT (fun _ _ h => h)
  · by_cases h3 : 0 ≤ p0
    · refine s_if0 rfl (zc_lt0 h3) ?_
      refine s_iload rfl rfl ?_
      refine s_const rfl ?_
      by_cases h4 : p0 < 6
      · refine s_ic0 rfl (zc_ge0 h4) ?_
        refine s_const rfl ?_
        refine s_goto rfl ?_
        refine s_cong ?_ hk2
        (rw [hz1, if_pos h3, if_pos h4]; rfl)
      · refine s_ic1 rfl (zc_ge1 h4) ?_
        refine s_const rfl ?_
        refine s_cong ?_ hk2
        (rw [hz1, if_pos h3, if_neg h4]; rfl)
    · refine s_if1 rfl (zc_lt1 h3) ?_
      refine s_const rfl ?_
      refine s_cong ?_ hk2
      (rw [hz1, if_neg h3]; rfl)
/-- RugReader$Rug.slotOf(I)I -/
def sh_76 (p0 : Int32) (w : Wd) : Option (Int32 × Wd) := cl (sh_71 p0 9 w) (fun r2 w1 => some (r2, w1))
set_option maxRecDepth 20000 in
set_option maxHeartbeats 4000000 in
theorem ev_76 {d : Nat} (hd : 2 ≤ d) {p0 : Int32} {w : Wd} (hT : TY w)  : sp (sh_76 p0 w) (fun r w' => TY w' ∧ Ev d 76 [.int p0] w (cvI r) w') := by
  obtain ⟨d, rfl⟩ : ∃ d', d = d' + 1 := ⟨d - 1, by omega⟩
  refine ev_of (M := M76) zin_76 rfl (by decide) rfl (Nat.le_of_ble_eq_true rfl) (Or.inl rfl) hT ?_
  show sp _ (PP (Ev d) M76 (KR cvI) (0, [(0, .int p0)], [], w))
  unfold sh_76
  refine s_iload rfl rfl ?_
  refine s_const rfl ?_
  refine s_callI [.int p0, .int 9] [] rfl rfl (Nat.le_of_ble_eq_true rfl) (ev_71 (d := d) (by omega) hT ) (fun r2 w1 hT1 => ?_)
  exact s_retI rfl rfl hT1 (fun _ _ h => h)
/-- RugReader$Rug.isTuft(I)Z -/
def sh_77 (p0 : Int32) (w : Wd) : Option (Bool × Wd) := lt (if 0 ≤ p0 then (if p0 < 144 then true else false) else false : Bool) (fun z1 => some (z1, w))
set_option maxRecDepth 20000 in
set_option maxHeartbeats 4000000 in
theorem ev_77 {d : Nat} (hd : 1 ≤ d) {p0 : Int32} {w : Wd} (hT : TY w)  : sp (sh_77 p0 w) (fun r w' => TY w' ∧ Ev d 77 [.int p0] w (cvZ r) w') := by
  obtain ⟨d, rfl⟩ : ∃ d', d = d' + 1 := ⟨d - 1, by omega⟩
  refine ev_of (M := M77) zin_77 rfl (by decide) rfl (Nat.le_of_ble_eq_true rfl) (Or.inl rfl) hT ?_
  show sp _ (PP (Ev d) M77 (KR cvZ) (0, [(0, .int p0)], [], w))
  unfold sh_77
  refine s_iload rfl rfl ?_
  refine sp_lt (fun z1 hz1 => ?_)
  refine s_dia (16, [(0, .int p0)], [.int (bi z1)], w) ?_ (fun hk2 => ?_)
  · exact s_retZ (z := z1) rfl rfl hT (fun _ _ h => h)
  · by_cases h3 : 0 ≤ p0
    · refine s_if0 rfl (zc_lt0 h3) ?_
      refine s_iload rfl rfl ?_
      refine s_const rfl ?_
      by_cases h4 : p0 < 144
      · refine s_ic0 rfl (zc_ge0 h4) ?_
        refine s_const rfl ?_
        refine s_goto rfl ?_
        refine s_cong ?_ hk2
        (rw [hz1, if_pos h3, if_pos h4]; rfl)
      · refine s_ic1 rfl (zc_ge1 h4) ?_
        refine s_const rfl ?_
        refine s_cong ?_ hk2
        (rw [hz1, if_pos h3, if_neg h4]; rfl)
    · refine s_if1 rfl (zc_lt1 h3) ?_
      refine s_const rfl ?_
      refine s_cong ?_ hk2
      (rw [hz1, if_neg h3]; rfl)
/-- RugReader$Rug.indexOf(III)I -/
def sh_78 (p0 : Int32) (p1 : Int32) (p2 : Int32) (w : Wd) : Option (Int32 × Wd) := some ((((p0 * 144) + p1) * 6) + p2, w)
set_option maxRecDepth 20000 in
set_option maxHeartbeats 4000000 in
theorem ev_78 {d : Nat} (hd : 1 ≤ d) {p0 : Int32} {p1 : Int32} {p2 : Int32} {w : Wd} (hT : TY w)  : sp (sh_78 p0 p1 p2 w) (fun r w' => TY w' ∧ Ev d 78 [.int p0, .int p1, .int p2] w (cvI r) w') := by
  obtain ⟨d, rfl⟩ : ∃ d', d = d' + 1 := ⟨d - 1, by omega⟩
  refine ev_of (M := M78) zin_78 rfl (by decide) rfl (Nat.le_of_ble_eq_true rfl) (Or.inl rfl) hT ?_
  show sp _ (PP (Ev d) M78 (KR cvI) (0, [(0, .int p0), (1, .int p1), (2, .int p2)], [], w))
  unfold sh_78
  refine s_iload rfl rfl ?_
  refine s_const rfl ?_
  refine s_bin rfl rfl ?_
  refine s_iload rfl rfl ?_
  refine s_bin rfl rfl ?_
  refine s_const rfl ?_
  refine s_bin rfl rfl ?_
  refine s_iload rfl rfl ?_
  refine s_bin rfl rfl ?_
  exact s_retI rfl rfl hT (fun _ _ h => h)
/-- RugReader$House.dirBetween(II)I -/
def sh_80 (p0 : Int32) (p1 : Int32) (w : Wd) : Option (Int32 × Wd) := if p1 = p0 - 12 then (some (0, w)) else (if p1 = p0 + 1 then (some (1, w)) else (lt (if p1 = p0 + 12 then 2 else 3 : Int32) (fun z3 => some (z3, w))))
set_option maxRecDepth 20000 in
set_option maxHeartbeats 4000000 in
theorem ev_80 {d : Nat} (hd : 1 ≤ d) {p0 : Int32} {p1 : Int32} {w : Wd} (hT : TY w)  : sp (sh_80 p0 p1 w) (fun r w' => TY w' ∧ Ev d 80 [.int p0, .int p1] w (cvI r) w') := by
  obtain ⟨d, rfl⟩ : ∃ d', d = d' + 1 := ⟨d - 1, by omega⟩
  refine ev_of (M := M80) zin_80 rfl (by decide) rfl (Nat.le_of_ble_eq_true rfl) (Or.inl rfl) hT ?_
  show sp _ (PP (Ev d) M80 (KR cvI) (0, [(0, .int p0), (1, .int p1)], [], w))
  unfold sh_80
  refine s_iload rfl rfl ?_
  refine s_iload rfl rfl ?_
  refine s_const rfl ?_
  refine s_bin rfl rfl ?_
  refine sp_ite (fun h1 => ?_) (fun h1 => ?_)
  · refine s_ic0 rfl (zc_ne0 h1) ?_
    refine s_const rfl ?_
    exact s_retI rfl rfl hT (fun _ _ h => h)
  · refine s_ic1 rfl (zc_ne1 h1) ?_
    refine s_iload rfl rfl ?_
    refine s_iload rfl rfl ?_
    refine s_const rfl ?_
    refine s_bin rfl rfl ?_
    refine sp_ite (fun h2 => ?_) (fun h2 => ?_)
    · refine s_ic0 rfl (zc_ne0 h2) ?_
      refine s_const rfl ?_
      exact s_retI rfl rfl hT (fun _ _ h => h)
    · refine s_ic1 rfl (zc_ne1 h2) ?_
      refine s_iload rfl rfl ?_
      refine s_iload rfl rfl ?_
      refine s_const rfl ?_
      refine s_bin rfl rfl ?_
      refine sp_lt (fun z3 hz3 => ?_)
      refine s_dia (32, [(0, .int p0), (1, .int p1)], [.int z3], w) ?_ (fun hk4 => ?_)
      · exact s_retI rfl rfl hT (fun _ _ h => h)
      · by_cases h5 : p1 = p0 + 12
        · refine s_ic0 rfl (zc_ne0 h5) ?_
          refine s_const rfl ?_
          refine s_goto rfl ?_
          refine s_cong ?_ hk4
          (rw [hz3, if_pos h5])
        · refine s_ic1 rfl (zc_ne1 h5) ?_
          refine s_const rfl ?_
          refine s_cong ?_ hk4
          (rw [hz3, if_neg h5])
/-- RugReader$House.dirOf(II)I -/
def sh_79 (o0 : Nat) (p1 : Int32) (p2 : Int32) (w : Wd) : Option (Int32 × Wd) := cl (sh_66 o0 p1 w) (fun r2 w1 => lt (r2 - 1 : Int32) (fun v3_3 => if v3_3 < 1 then (some (0, w1)) else (cl (sh_19 p2 (v3_3 - 1) w1) (fun r6 w5 => cl (sh_65 o0 p1 r6 w5) (fun r8 w7 => cl (sh_65 o0 p1 (r6 + 1) w7) (fun r10 w9 => cl (sh_80 r8 r10 w9) (fun r12 w11 => some (r12, w11))))))))
set_option maxRecDepth 20000 in
set_option maxHeartbeats 4000000 in
theorem ev_79 {d : Nat} (hd : 4 ≤ d) {o0 : Nat} {p1 : Int32} {p2 : Int32} {w : Wd} (hT : TY w) (ho0 : ist o0 1) : sp (sh_79 o0 p1 p2 w) (fun r w' => TY w' ∧ Ev d 79 [.ref o0, .int p1, .int p2] w (cvI r) w') := by
  obtain ⟨d, rfl⟩ : ∃ d', d = d' + 1 := ⟨d - 1, by omega⟩
  refine ev_of (M := M79) zin_79 rfl (by decide) rfl (Nat.le_of_ble_eq_true rfl) (Or.inr ⟨o0, _, rfl, ho0⟩) hT ?_
  show sp _ (PP (Ev d) M79 (KR cvI) (0, [(0, .ref o0), (1, .int p1), (2, .int p2)], [], w))
  unfold sh_79
  refine s_aload rfl rfl ?_
  refine s_iload rfl rfl ?_
  refine s_callI [.ref o0, .int p1] [] rfl rfl (Nat.le_of_ble_eq_true rfl) (ev_66 (d := d) (by omega) hT ho0) (fun r2 w1 hT1 => ?_)
  refine s_const rfl ?_
  refine s_bin rfl rfl ?_
  refine s_nmI (fun v3_3 => ?_)
  refine s_istoreF [(0, .ref o0), (1, .int p1), (2, .int p2), (3, .int v3_3)] rfl (subl_c rfl (subl_c rfl (subl_c rfl (subl_c rfl (subl_n))))) ?_
  refine s_iload rfl rfl ?_
  refine s_const rfl ?_
  refine sp_ite (fun h4 => ?_) (fun h4 => ?_)
  · refine s_ic0 rfl (zc_ge0 h4) ?_
    refine s_const rfl ?_
    exact s_retI rfl rfl hT1 (fun _ _ h => h)
  · refine s_ic1 rfl (zc_ge1 h4) ?_
    refine s_iload rfl rfl ?_
    refine s_iload rfl rfl ?_
    refine s_const rfl ?_
    refine s_bin rfl rfl ?_
    refine s_callI [.int p2, .int (v3_3 - 1)] [] rfl rfl (Nat.le_of_ble_eq_true rfl) (ev_19 (d := d) (by omega) hT1 ) (fun r6 w5 hT5 => ?_)
    refine s_istoreF [(0, .ref o0), (1, .int p1), (4, .int r6)] rfl (subl_c rfl (subl_c rfl (subl_c rfl (subl_n)))) ?_
    refine s_aload rfl rfl ?_
    refine s_iload rfl rfl ?_
    refine s_iload rfl rfl ?_
    refine s_callI [.ref o0, .int p1, .int r6] [] rfl rfl (Nat.le_of_ble_eq_true rfl) (ev_65 (d := d) (by omega) hT5 ho0) (fun r8 w7 hT7 => ?_)
    refine s_aload rfl rfl ?_
    refine s_iload rfl rfl ?_
    refine s_iload rfl rfl ?_
    refine s_const rfl ?_
    refine s_bin rfl rfl ?_
    refine s_callI [.ref o0, .int p1, .int (r6 + 1)] [.int r8] rfl rfl (Nat.le_of_ble_eq_true rfl) (ev_65 (d := d) (by omega) hT7 ho0) (fun r10 w9 hT9 => ?_)
    refine s_callI [.int r8, .int r10] [] rfl rfl (Nat.le_of_ble_eq_true rfl) (ev_80 (d := d) (by omega) hT9 ) (fun r12 w11 hT11 => ?_)
    exact s_retI rfl rfl hT11 (fun _ _ h => h)
/-- RugReader$Rug.tread(LRugReader$House;III)V -/
def sh_74 (o0 : Nat) (o1 : Nat) (p2 : Int32) (p3 : Int32) (p4 : Int32) (w : Wd) : Option (Unit × Wd) := cl (sh_75 p2 w) (fun r2 w1 => if r2 = true then (cl (sh_76 (wI w1 o0 0) w1) (fun r5 w4 => cl (sh_66 o1 p3 w4) (fun r7 w6 => itM (fun (v7_8 : Int32) (w10 : Wd) => if v7_8 < r7 then (cl (sh_65 o1 p3 v7_8 w10) (fun r13 w12 => cl (sh_77 r13 w12) (fun r15 w14 => if r15 = true then (cl (sh_78 r5 r13 p2 w14) (fun r18 w17 => gd (ib r18 7776) (gd (ib r18 7776) (stI w17 (o0 + 1) (ix r18) ((wI w17 (o0 + 1) (ix r18)) + 1) (fun w19 => gd (ib r13 144) (stI w19 (o0 + 3) (ix r13) p2 (fun w20 => gd (ib r13 144) (stI w20 (o0 + 4) (ix r13) p4 (fun w21 => cl (sh_79 o1 p3 v7_8 w21) (fun r23 w22 => gd (ib r13 144) (stI w22 (o0 + 5) (ix r13) r23 (fun w24 => gd (ib r13 144) (stI w24 (o0 + 6) (ix r13) (wI w24 o0 0) (fun w25 => lt (v7_8 + 1 : Int32) (fun v7_26 => some (.inl v7_26, w25)))))))))))))))) else (lt (v7_8 + 1 : Int32) (fun v7_27 => some (.inl v7_27, w14)))))) else (gd (ib p2 6) (gd (ib p2 6) (stI w10 (o0 + 7) (ix p2) ((wI w10 (o0 + 7) (ix p2)) + 1) (fun w28 => some (.inr (()), w28)))))) FU 0 w6))) else (some ((), w1)))
set_option maxRecDepth 20000 in
set_option maxHeartbeats 4000000 in
theorem ev_74 {d : Nat} (hd : 5 ≤ d) {o0 : Nat} {o1 : Nat} {p2 : Int32} {p3 : Int32} {p4 : Int32} {w : Wd} (hT : TY w) (ho0 : ist o0 5) (ho1 : ist o1 1) : sp (sh_74 o0 o1 p2 p3 p4 w) (fun r w' => TY w' ∧ Ev d 74 [.ref o0, .ref o1, .int p2, .int p3, .int p4] w (cvV r) w') := by
  obtain ⟨d, rfl⟩ : ∃ d', d = d' + 1 := ⟨d - 1, by omega⟩
  refine ev_of (M := M74) zin_74 rfl (by decide) rfl (Nat.le_of_ble_eq_true rfl) (Or.inr ⟨o0, _, rfl, ho0⟩) hT ?_
  show sp _ (PP (Ev d) M74 (KR cvV) (0, [(0, .ref o0), (1, .ref o1), (2, .int p2), (3, .int p3), (4, .int p4)], [], w))
  unfold sh_74
  refine s_iload rfl rfl ?_
  refine s_callZ [.int p2] [] rfl rfl (Nat.le_of_ble_eq_true rfl) (ev_75 (d := d) (by omega) hT ) (fun r2 w1 hT1 => ?_)
  refine sp_ite (fun h3 => ?_) (fun h3 => ?_)
  · refine s_if1 rfl (zb_ne1 h3) ?_
    refine s_aload rfl rfl ?_
    refine s_getI rfl hT1 ho0 ?_
    refine s_callI [.int (wI w1 o0 0)] [] rfl rfl (Nat.le_of_ble_eq_true rfl) (ev_76 (d := d) (by omega) hT1 ) (fun r5 w4 hT4 => ?_)
    refine s_istoreF [(0, .ref o0), (1, .ref o1), (2, .int p2), (3, .int p3), (4, .int p4), (5, .int r5)] rfl (subl_c rfl (subl_c rfl (subl_c rfl (subl_c rfl (subl_c rfl (subl_c rfl (subl_n))))))) ?_
    refine s_aload rfl rfl ?_
    refine s_iload rfl rfl ?_
    refine s_callI [.ref o1, .int p3] [] rfl rfl (Nat.le_of_ble_eq_true rfl) (ev_66 (d := d) (by omega) hT4 ho1) (fun r7 w6 hT6 => ?_)
    refine s_istoreF [(0, .ref o0), (1, .ref o1), (2, .int p2), (3, .int p3), (4, .int p4), (5, .int r5), (6, .int r7)] rfl (subl_c rfl (subl_c rfl (subl_c rfl (subl_c rfl (subl_c rfl (subl_c rfl (subl_c rfl (subl_n)))))))) ?_
    refine s_const rfl ?_
    refine s_istoreF [(0, .ref o0), (1, .ref o1), (2, .int p2), (3, .int p3), (4, .int p4), (5, .int r5), (6, .int r7), (7, .int 0)] rfl (subl_c rfl (subl_c rfl (subl_c rfl (subl_c rfl (subl_c rfl (subl_c rfl (subl_c rfl (subl_c rfl (subl_n))))))))) ?_
    let lvL9 : Int32 → List (Nat × Value) := fun s29 => [(0, .ref o0), (1, .ref o1), (2, .int p2), (3, .int p3), (4, .int p4), (5, .int r5), (6, .int r7), (7, .int s29)]
    refine s_loop lvL9 (subl_c rfl (subl_c rfl (subl_c rfl (subl_c rfl (subl_c rfl (subl_c rfl (subl_c rfl (subl_c rfl (subl_n))))))))) hT6 (fun v7_8 w10 hT10 => ?_)
    show sp _ (PP _ _ _ (27, [(0, .ref o0), (1, .ref o1), (2, .int p2), (3, .int p3), (4, .int p4), (5, .int r5), (6, .int r7), (7, .int v7_8)], [], w10))
    refine s_iload rfl rfl ?_
    refine s_iload rfl rfl ?_
    refine sp_ite (fun h11 => ?_) (fun h11 => ?_)
    · refine s_ic0 rfl (zc_ge0 h11) ?_
      refine s_aload rfl rfl ?_
      refine s_iload rfl rfl ?_
      refine s_iload rfl rfl ?_
      refine s_callI [.ref o1, .int p3, .int v7_8] [] rfl rfl (Nat.le_of_ble_eq_true rfl) (ev_65 (d := d) (by omega) hT10 ho1) (fun r13 w12 hT12 => ?_)
      refine s_istoreF [(0, .ref o0), (1, .ref o1), (2, .int p2), (3, .int p3), (4, .int p4), (5, .int r5), (6, .int r7), (7, .int v7_8), (8, .int r13)] rfl (subl_c rfl (subl_c rfl (subl_c rfl (subl_c rfl (subl_c rfl (subl_c rfl (subl_c rfl (subl_c rfl (subl_c rfl (subl_n)))))))))) ?_
      refine s_iload rfl rfl ?_
      refine s_callZ [.int r13] [] rfl rfl (Nat.le_of_ble_eq_true rfl) (ev_77 (d := d) (by omega) hT12 ) (fun r15 w14 hT14 => ?_)
      refine sp_ite (fun h16 => ?_) (fun h16 => ?_)
      · refine s_if0 rfl (zb_eq0 h16) ?_
        refine s_aload rfl rfl ?_
        refine s_getF rfl hT14 ho0 rfl ?_
        refine s_iload rfl rfl ?_
        refine s_iload rfl rfl ?_
        refine s_iload rfl rfl ?_
        refine s_callI [.int r5, .int r13, .int p2] [.ref (o0 + 1)] rfl rfl (Nat.le_of_ble_eq_true rfl) (ev_78 (d := d) (by omega) hT14 ) (fun r18 w17 hT17 => ?_)
        refine s_dup2 rfl ⟨rfl, rfl⟩ ?_
        refine s_iald rfl hT17 (of_5_1 ho0) ?_
        refine s_const rfl ?_
        refine s_bin rfl rfl ?_
        refine s_iast rfl hT17 (of_5_1 ho0) (fun w19 hT19 => ?_)
        refine s_aload rfl rfl ?_
        refine s_getF rfl hT19 ho0 rfl ?_
        refine s_iload rfl rfl ?_
        refine s_iload rfl rfl ?_
        refine s_iast rfl hT19 (of_5_3 ho0) (fun w20 hT20 => ?_)
        refine s_aload rfl rfl ?_
        refine s_getF rfl hT20 ho0 rfl ?_
        refine s_iload rfl rfl ?_
        refine s_iload rfl rfl ?_
        refine s_iast rfl hT20 (of_5_4 ho0) (fun w21 hT21 => ?_)
        refine s_aload rfl rfl ?_
        refine s_getF rfl hT21 ho0 rfl ?_
        refine s_iload rfl rfl ?_
        refine s_aload rfl rfl ?_
        refine s_iload rfl rfl ?_
        refine s_iload rfl rfl ?_
        refine s_callI [.ref o1, .int p3, .int v7_8] [.int r13, .ref (o0 + 5)] rfl rfl (Nat.le_of_ble_eq_true rfl) (ev_79 (d := d) (by omega) hT21 ho1) (fun r23 w22 hT22 => ?_)
        refine s_iast rfl hT22 (of_5_5 ho0) (fun w24 hT24 => ?_)
        refine s_aload rfl rfl ?_
        refine s_getF rfl hT24 ho0 rfl ?_
        refine s_iload rfl rfl ?_
        refine s_aload rfl rfl ?_
        refine s_getI rfl hT24 ho0 ?_
        refine s_iast rfl hT24 (of_5_6 ho0) (fun w25 hT25 => ?_)
        refine s_iincF (fun v7_26 => [(0, .ref o0), (1, .ref o1), (2, .int p2), (3, .int p3), (4, .int p4), (5, .int r5), (6, .int r7), (7, .int v7_26)]) rfl rfl (fun _ => subl_c rfl (subl_c rfl (subl_c rfl (subl_c rfl (subl_c rfl (subl_c rfl (subl_c rfl (subl_c rfl (subl_n))))))))) (fun v7_26 => ?_)
        refine s_goto rfl ?_
        exact s_back (lvL := lvL9) (s' := v7_26) (subl_c rfl (subl_c rfl (subl_c rfl (subl_c rfl (subl_c rfl (subl_c rfl (subl_c rfl (subl_c rfl (subl_n))))))))) hT25 (fun _ _ h => h)
      · refine s_if1 rfl (zb_eq1 h16) ?_
        refine s_iincF (fun v7_27 => [(0, .ref o0), (1, .ref o1), (2, .int p2), (3, .int p3), (4, .int p4), (5, .int r5), (6, .int r7), (7, .int v7_27)]) rfl rfl (fun _ => subl_c rfl (subl_c rfl (subl_c rfl (subl_c rfl (subl_c rfl (subl_c rfl (subl_c rfl (subl_c rfl (subl_n))))))))) (fun v7_27 => ?_)
        refine s_goto rfl ?_
        exact s_back (lvL := lvL9) (s' := v7_27) (subl_c rfl (subl_c rfl (subl_c rfl (subl_c rfl (subl_c rfl (subl_c rfl (subl_c rfl (subl_c rfl (subl_n))))))))) hT14 (fun _ _ h => h)
    · refine s_ic1 rfl (zc_ge1 h11) ?_
      refine s_aload rfl rfl ?_
      refine s_getF rfl hT10 ho0 rfl ?_
      refine s_iload rfl rfl ?_
      refine s_dup2 rfl ⟨rfl, rfl⟩ ?_
      refine s_iald rfl hT10 (of_5_7 ho0) ?_
      refine s_const rfl ?_
      refine s_bin rfl rfl ?_
      refine s_iast rfl hT10 (of_5_7 ho0) (fun w28 hT28 => ?_)
      exact s_retV rfl rfl hT28 (fun _ _ h => h)
  · refine s_if0 rfl (zb_ne0 h3) ?_
    exact s_retV rfl rfl hT1 (fun _ _ h => h)
