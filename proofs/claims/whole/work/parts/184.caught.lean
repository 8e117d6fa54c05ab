/-! what is thrown: the law's method that catches -/
def M4x : Mth := (400, 12, 4, 1, 5, [])
def lv4 (a b : Int32) : List (Nat × Value) := [(0, .ref 0), (1, .int a), (2, .int b), (3, .ref 191)]
def D4 (cc : ByteArray) (idx : Nat) : Prop := decode cc 0 = .ok (.aload_n 3, 1) ∧ decode cc 1 = .ok (.iconst 0, 1) ∧ decode cc 2 = .ok (.aload_n 0, 1) ∧ decode cc 3 = .ok (.iload_n 1, 1) ∧ decode cc 4 = .ok (.iload_n 2, 1) ∧ decode cc 5 = .ok (.invokevirtual idx, 3) ∧ decode cc 8 = .ok (.i2l, 1) ∧ decode cc 9 = .ok (.lastore, 1) ∧ decode cc 10 = .ok (.goto 7, 3) ∧ decode cc 13 = .ok (.astore 4, 2) ∧ decode cc 15 = .ok (.iconst 1, 1) ∧ decode cc 16 = .ok (.ireturn, 1) ∧ decode cc 17 = .ok (.iconst 0, 1) ∧ decode cc 18 = .ok (.ireturn, 1)
section TC
variable {dC : Nat → ClassId} {dI : Nat → Nat → Nat} {dA : Nat → ClassId} {B L : Nat} {xs : Nat → Int32} {sa : Nat → Nat} {a1 a2 : Nat}
variable {l : Launch}
theorem rec0 {s : State} {w : Wd} {H : Heap} (hK : va_K (dC, dI) zcl (ztys dA) s) (hP : zHp dC dI dA B sa w H) (hw : wn w = 192) : ∃ cell : Cell, H[B + 0]? = some cell ∧ cell.vm.isStatics = false ∧ s.vm.findClass (zC 9) = some cell.cls :=
  va_recv (q0 := 0) (ci := 9) hK hP.1 (zcl_get (c := 9) (by decide)) (by rw [zws_get (by rw [hw]; decide), zcell_obj (c := 9) (by decide) (by decide +kernel) (by decide)])
set_option maxHeartbeats 1000000 in
theorem catch_met {M : Mth} {n idx : Nat} {y4 : MethodName} {cc : ByteArray} (hMm : M ∈ zMs) (hnum : mNum M = n) (hnz : ¬ n = 0) (hc9 : mCls M = 9) (hst : zsta.contains n = false) (hni : zini.contains n = false) (harg : mArg M = 3) (hloc : mLoc M ≤ 20)
    (hy4 : y4.cls = "RugReaderLaw") (hpn : plainName y4.cls = true) (hD : D4 cc idx) (hl1 : Cond.methodLink "RugReaderLaw" idx (zy n) ∈ lw_tbl) (hl2 : goodWord (Cond.methodLink "RugReaderLaw" idx (zy n)) = true) {a b : Int32} {w : Wd} (hwn : wn w = 192)
    (hT : vx_Met l (zy n) (zcw M :: zWS) { frames := 61, cells := 1, slots := 6, locals := 1952 } (va_Pc (([.ref 0, .int a, .int b] : List Value).map (ztr B sa)) (fun U => zGX dC dI dA B L xs sa a1 a2 w U)) (fun _ _ _ _ => False) (fun E st t => E = E1 ∧ zHp dC dI dA B sa w t.heap ∧ va_F (zA B) st t) 1 6 (zA B)) :
    Met l y4 (Cond.codeWith y4 cc 5 (some .int) [(0, 10, 13, 13)] :: zWS) { frames := 62, cells := 1, slots := 6, locals := 2048 } (va_Pc (([.ref 0, .int a, .int b, .ref 191] : List Value).map (ztr B sa)) (fun U => zGX dC dI dA B L xs sa a1 a2 w U))
      (fun _ st o t => o = .returned ((some (Value.int 1)).map (ztr B sa)) ∧ zG dC dI dA B L xs sa w t ∧ va_F (zA B) st t) 1 6 (zA B) := by
  obtain ⟨d0, d1, d2, d3, d4, d5, d8, d9, d10, d13, d15, d16, d17, d18⟩ := hD
  refine va_MetW (cc := cc) (maxL := 5) (ret := some .int) (hh := [(0, 10, 13, 13)]) hpn rfl ?_
  intro p e s m args below meth c s₁ BL hml hv
  obtain ⟨rfl, hG, hZ⟩ := hv
  obtain ⟨hP, hK, hS, hN, hScr, hlow, hup⟩ := hG
  have htsA := atoms_spec (ws := Cond.codeWith y4 cc 5 (some .int) [(0, 10, 13, 13)] :: zWS) BL.pre
  have hts : ∀ w ∈ zWS, w.before (([.ref 0, .int a, .int b, .ref 191] : List Value).map (ztr B sa)).toArray s = true := fun w hw => htsA w (List.mem_cons_of_mem _ hw)
  have hz : ∀ w, w ∈ lw_tbl → goodWord w = true → w.before (([.ref 0, .int a, .int b, .ref 191] : List Value).map (ztr B sa)).toArray s = true := fun w h1 h2 => hts w (List.mem_filter.mpr ⟨h1, h2⟩)
  have hown : s.vm.findClass "RugReaderLaw" = some m.cls := by rw [← hy4]; exact findClass_of_methodNamed BL.named
  have hl := lv_entry (([.ref 0, .int a, .int b, .ref 191] : List Value).map (ztr B sa)) (n := 5) (by rw [lg_sl_len, ztr_sum]; exact Nat.le_of_ble_eq_true rfl)
  rw [lg_entry_eq]
  generalize (lg_sl (([.ref 0, .int a, .int b, .ref 191] : List Value).map (ztr B sa)) ++ List.replicate (5 - (lg_sl (([.ref 0, .int a, .int b, .ref 191] : List Value).map (ztr B sa))).length) Slot.unset).toArray = ls at hl ⊢
  rw [zlv_args] at hl
  have hl' : lv_has ls 5 (zlv B sa (lv4 a b)) := hl
  have z0 : ztr B sa (.ref 0) = .ref (B + 0) := by show Value.ref (zad B sa 0) = _; rw [zad_own (by decide)]
  have z1 : ztr B sa (.ref 191) = .ref (B + 191) := by show Value.ref (zad B sa 191) = _; rw [zad_own (by decide)]
  have l0 : ls[0]? = some (.val (.ref (B + 0))) := by rw [← z0]; exact zlv_at hl' rfl
  have l3 : ls[3]? = some (.val (.ref (B + 191))) := by rw [← z1]; exact zlv_at hl' rfl
  have l1 : ls[1]? = some (.val (.int a)) := zlv_at hl' (i := 1) (v := .int a) rfl
  have l2 : ls[2]? = some (.val (.int b)) := zlv_at hl' (i := 2) (v := .int b) rfl
  refine lv_aload_n BL.exec BL.bytes d0 rfl l3 (lv_iconst BL.exec BL.bytes d1 (v := 0) rfl (lv_aload_n BL.exec BL.bytes d2 rfl l0 (lv_iload_n BL.exec BL.bytes d3 rfl l1 (lv_iload_n BL.exec BL.bytes d4 rfl l2 ?_))))
  have hlink := hz _ hl1 hl2
  have cw := cw_law (R := (headSpec (Cond.codeWith y4 cc 5 (some .int) [(0, 10, 13, 13)] :: zWS) { frames := 62, cells := 1, slots := 6, locals := 2048 }).room) (rm := { frames := 61, cells := 1, slots := 6, locals := 1952 }) hMm hnum hnz hst hni (by omega) hts hlink ⟨(show 61 + 1 ≤ 62 by decide), (show 8 + (mLoc M + 11) + 1952 ≤ 2048 by omega)⟩
  rw [hc9] at cw
  have hpre : ∀ U : State, U.heap = s.heap → s.WarmedH U.vm → va_Pc (([.ref 0, .int a, .int b] : List Value).map (ztr B sa)) (fun U => zGX dC dI dA B L xs sa a1 a2 w U) (Value.ref (B + 0) :: [.int a, .int b]).toArray U := by
    intro U hU hW
    refine ⟨by rw [← z0]; rfl, ⟨by rw [hU]; exact hP, va_K.moved hW.alike hK, by rw [hU]; exact hS.go va_S.rf hW.alike, hN.warm hW, hScr, by rw [hU]; exact hlow, fun h => absurd h (by rw [hwn]; decide)⟩, ?_⟩
    rw [hU]
    exact hZ.go va_S.rf hW
  have hr := vx_runV (p := p) (l := l) (e := e) (m := m) (below := below) (meth := meth) (c := c) (cells := 0) (slots := 0) (locs := []) (b := B + 0) (As := [.int a, .int b]) (rest := [.int 0, .ref (B + 191)]) (g := F0 m 5 ls [.int b, .int a, .ref (B + 0), .int 0, .ref (B + 191)]) ⟨BL.exec, BL.bytes, hml, hown, hts⟩ hT cw ⟨zGX.bl, rec0 hK hP hwn, hpre⟩ rfl (by rw [harg]; rfl) hl'.1 rfl (show 2 * 0 + (1 + (1 + 0)) ≤ 8 by decide) d5 ⟨(show 0 + 1 ≤ 1 by decide), (show 0 + 6 ≤ 6 by decide)⟩
  intro T hT0 X
  rcases hr T hT0 X with ⟨v, st₀, t, T', Ls, h0, X', hL, e1, e2, hF, st⟩ | ⟨q9, st₀, t, T', Ls, E, ce, h0, X', hL, e1, e2, ⟨hE1, hHp, hF⟩, hce, hcv, hcl, st⟩
  · exact hF.elim
  · subst hE1
    obtain ⟨z1, z2⟩ := hF
    rw [h0] at z1 z2
    have hSS : va_S (zA B) s.heap T'.heap ([] ++ Ls) := by
      refine ⟨by rw [e1]; exact z1, fun q g1 g2 => by rw [e1]; exact z2 q g1 g2, fun q hq => ?_⟩
      rw [List.nil_append] at hq
      exact hL q hq
    have hHp' : zHp dC dI dA B sa w T'.heap := by rw [e1]; exact hHp
    have hcast : (Cond.castable E1 E1).before (([.ref 0, .int a, .int b, .ref 191] : List Value).map (ztr B sa)).toArray s = true := va_Nw.use rfl (hZ.2.2.2.2 _ (by unfold thB; simp))
    have htab := vx_table (x := y4) BL (htsA _ List.mem_cons_self)
    have kk := vx_catch (p := p) (l := l) (e := e) (below := below) (H := T'.heap) (locs := [] ++ Ls) (cells := 0 + 1) (slots := 0 + 6) (Q := MQ below (fun _ st o t => o = .returned ((some (Value.int 1)).map (ztr B sa)) ∧ zG dC dI dA B L xs sa w t ∧ va_F (zA B) st t) (([.ref 0, .int a, .int b, .ref 191] : List Value).map (ztr B sa)).toArray s 1 6 (zA B)) (pc := 5) (ls := ls) (rest := [.int 0, .ref (B + 191)]) (R := (headSpec (Cond.codeWith y4 cc 5 (some .int) [(0, 10, 13, 13)] :: zWS) { frames := 62, cells := 1, slots := 6, locals := 2048 }).room) (meth := meth) hown [] { startPc := 0, endPc := 10, handlerPc := 13, catchType := 13 } [] (htab.trans rfl) (fun z hz => nomatch hz) (by decide +kernel) (by decide) (hz _ th_l4.2.2.2.2.2 th_l6.2.2.2.2.2.1) hcast (by rw [e1]; exact hce) hcv hcl
      (lv_astore BL.exec BL.bytes d13 hl' (by decide) rfl (fun ls' hl2 => lv_iconst BL.exec BL.bytes d15 (v := 1) rfl (W.iret BL.exec BL.bytes BL.returns (fun t h1 h2 => ⟨rfl, ⟨by rw [h1]; exact hHp', va_K.moved h2.alike hK, by rw [h1]; exact hS.go hSS h2.alike, hN.warm h2, hScr, by rw [h1]; exact zhp_low hHp' hSS (by omega), fun h => absurd h (by rw [hwn]; decide)⟩, hSS.F h1⟩) hSS.2.2 d16 BL.notSynchronized)))
    obtain ⟨t2, s1, s2⟩ := kk T' rfl X'
    exact ⟨t2, st.trans s1, s2⟩
end TC
