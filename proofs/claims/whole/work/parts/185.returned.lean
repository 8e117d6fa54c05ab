/-! what is thrown: the law's method that catches, where nothing is thrown -/
section TN
variable {dC : Nat → ClassId} {dI : Nat → Nat → Nat} {dA : Nat → ClassId} {B L : Nat} {xs : Nat → Int32} {sa : Nat → Nat} {a1 a2 : Nat}
variable {l : Launch}
set_option maxHeartbeats 1000000 in
theorem ret_met (hE : zMet dC dI dA B L xs sa l 60 (Ev 60)) {n idx : Nat} {y4 : MethodName} {cc : ByteArray} (huq : ∀ M ∈ zMs, mNum M = n → mCls M = 9 ∧ mLoc M ≤ 20 ∧ mArg M = 3) (hst : zsta.contains n = false) (hni : zini.contains n = false)
    (hy4 : y4.cls = "RugReaderLaw") (hpn : plainName y4.cls = true) (hD : D4 cc idx) (hl1 : Cond.methodLink "RugReaderLaw" idx (zy n) ∈ lw_tbl) (hl2 : goodWord (Cond.methodLink "RugReaderLaw" idx (zy n)) = true) {a b v : Int32} {w : Wd} (hwn : wn w = 192)
    (hEv : Ev 60 n [.ref 0, .int a, .int b] w (some (.int v)) w) :
    Met l y4 (Cond.codeWith y4 cc 5 (some .int) [(0, 10, 13, 13)] :: zWS) { frames := 62, cells := 0, slots := 0, locals := 2048 } (va_Pc (([.ref 0, .int a, .int b, .ref 191] : List Value).map (ztr B sa)) (fun U => zGX dC dI dA B L xs sa a1 a2 w U))
      (fun _ st o t => o = .returned ((some (Value.int 0)).map (ztr B sa)) ∧ zG dC dI dA B L xs sa (sL w 191 0 v.toInt64) t ∧ va_F (zA B) st t) 0 0 (zA B) := by
  obtain ⟨d0, d1, d2, d3, d4, d5, d8, d9, d10, d13, d15, d16, d17, d18⟩ := hD
  obtain ⟨-, -, M, hMm, hnum, hnz, hlen, -, hMet⟩ := hE _ _ _ _ _ hEv
  obtain ⟨hc9, hloc, harg⟩ := huq M hMm hnum
  simp only [Nat.sub_self] at hMet
  refine va_MetW (cc := cc) (maxL := 5) (ret := some .int) (hh := [(0, 10, 13, 13)]) hpn rfl ?_
  intro p e s m args below meth c s₁ BL hml hv
  obtain ⟨rfl, hG, hZ⟩ := hv
  obtain ⟨hP, hK, hS, hN, hScr, hlow, hup⟩ := hG
  have htsA := atoms_spec (ws := Cond.codeWith y4 cc 5 (some .int) [(0, 10, 13, 13)] :: zWS) BL.pre
  have hts : ∀ w ∈ zWS, w.before (([.ref 0, .int a, .int b, .ref 191] : List Value).map (ztr B sa)).toArray s = true := fun w hw => htsA w (List.mem_cons_of_mem _ hw)
  have hz : ∀ w, w ∈ lw_tbl → goodWord w = true → w.before (([.ref 0, .int a, .int b, .ref 191] : List Value).map (ztr B sa)).toArray s = true := fun w h1 h2 => hts w (List.mem_filter.mpr ⟨h1, h2⟩)
  have hown : s.vm.findClass "RugReaderLaw" = some m.cls := by rw [← hy4]; exact findClass_of_methodNamed BL.named
  have hl := lv_entry (([.ref 0, .int a, .int b, .ref 191] : List Value).map (ztr B sa)) (n := 5) (by rw [lg_sl_len, ztr_sum]; exact Nat.le_of_ble_eq_true rfl)
  rw [lg_entry_eq]
  generalize (lg_sl (([.ref 0, .int a, .int b, .ref 191] : List Value).map (ztr B sa)) ++ List.replicate (5 - (lg_sl (([.ref 0, .int a, .int b, .ref 191] : List Value).map (ztr B sa))).length) Slot.unset).toArray = ls at hl ⊢
  rw [zlv_args] at hl
  have hl' : lv_has ls 5 (zlv B sa (lv4 a b)) := hl
  have z0 : ztr B sa (.ref 0) = .ref (B + 0) := by show Value.ref (zad B sa 0) = _; rw [zad_own (by decide)]
  have l0 : ls[0]? = some (.val (.ref (B + 0))) := by rw [← z0]; exact zlv_at hl' rfl
  have l3 : ls[3]? = some (.val (.ref (zad B sa 191))) := zlv_at hl' (i := 3) (v := .ref 191) rfl
  have l1 : ls[1]? = some (.val (.int a)) := zlv_at hl' (i := 1) (v := .int a) rfl
  have l2 : ls[2]? = some (.val (.int b)) := zlv_at hl' (i := 2) (v := .int b) rfl
  refine lv_aload_n BL.exec BL.bytes d0 rfl l3 (lv_iconst BL.exec BL.bytes d1 (v := 0) rfl (lv_aload_n BL.exec BL.bytes d2 rfl l0 (lv_iload_n BL.exec BL.bytes d3 rfl l1 (lv_iload_n BL.exec BL.bytes d4 rfl l2 ?_))))
  have hlink := hz _ hl1 hl2
  have cw := cw_law (R := (headSpec (Cond.codeWith y4 cc 5 (some .int) [(0, 10, 13, 13)] :: zWS) { frames := 62, cells := 0, slots := 0, locals := 2048 }).room) (rm := { frames := 60, cells := 0, slots := 0, locals := 32 * 60 }) hMm hnum hnz hst hni (by omega) hts hlink ⟨(show 60 + 1 ≤ 62 by decide), (show 8 + (mLoc M + 11) + 32 * 60 ≤ 2048 by omega)⟩
  rw [hc9] at cw
  have hbl : FrameBlind (va_Pc (([.ref 0, .int a, .int b] : List Value).map (ztr B sa)) (fun U => zG dC dI dA B L xs sa w U)) := fun a U g mk q => ⟨q.1, q.2.blind⟩
  have hpre : ∀ U : State, U.heap = s.heap → s.WarmedH U.vm → va_Pc (([.ref 0, .int a, .int b] : List Value).map (ztr B sa)) (fun U => zG dC dI dA B L xs sa w U) (Value.ref (B + 0) :: [.int a, .int b]).toArray U := by
    intro U hU hW
    exact ⟨by rw [← z0]; rfl, by rw [hU]; exact hP, va_K.moved hW.alike hK, by rw [hU]; exact hS.go va_S.rf hW.alike, hN.warm hW, hScr, by rw [hU]; exact hlow, fun h => absurd h (by rw [hwn]; decide)⟩
  have hr := va_runV (p := p) (l := l) (e := e) (m := m) (below := below) (meth := meth) (c := c) (cells := 0) (slots := 0) (locs := []) (b := B + 0) (As := [.int a, .int b]) (rest := ([.int 0, .ref 191] : List Value).map (ztr B sa)) (g := F0 m 5 ls ([.int b, .int a, .ref (B + 0)] ++ ([.int 0, .ref 191] : List Value).map (ztr B sa))) ⟨BL.exec, BL.bytes, hml, hown, hts⟩ hMet cw ⟨hbl, rec0 hK hP hwn, hpre⟩ rfl (by rw [harg]; rfl) hl'.1 rfl (show 2 * 0 + (1 + (1 + 0)) ≤ 8 by decide) d5 ⟨(show 0 + 0 ≤ 0 by decide), (show 0 + 0 ≤ 0 by decide)⟩
  refine zafter (w := w) (w1 := w) (r := some (.int v)) (aa := #[]) (M := M4x) (lv := lv4 a b) (rest := [.int 0, .ref 191]) (npc := 8) rfl hr va_S.rf hl' ?_
  intro H1 locs1 ls1 hA
  obtain ⟨g1, g2, g3, g4⟩ := hA
  refine lv_i2l BL.exec BL.bytes d8 rfl ?_
  show W p l e _ s m _ below meth c H1 locs1 0 0 _ (F0 m 9 ls1 [.long v.toInt64, .int 0, .ref (zad B sa 191)])
  rw [zad_own (show 191 < 192 by decide)]
  have o1 : 191 < wn w := by rw [hwn]; decide
  have o2 : (zsh 191).1 = 102 := by decide +kernel
  refine va_last BL.exec BL.bytes hK g1.1 (zD w) g2 191 1 (by rw [zws_get o1, zcell_long o2]) rfl (ib_vp (i := 0) (n := (zsh 191).2) (by decide +kernel)) d9 (fun H2 locs2 q1 _ q2 => ?_)
  rw [zset_l o1 o2] at q1
  have hP2 : zHp dC dI dA B sa (sL w 191 0 v.toInt64) H2 := ⟨q1, g1.2⟩
  refine lv_goto (tgt := 17) BL.exec BL.bytes d10 (by decide) (lv_iconst BL.exec BL.bytes d17 (v := 0) rfl (W.iret BL.exec BL.bytes BL.returns (fun t h1 h2 => ⟨rfl, ⟨by rw [h1]; exact hP2, va_K.moved h2.alike hK, by rw [h1]; exact hS.go q2 h2.alike, hN.warm h2, hScr, by rw [h1]; exact zhp_low hP2 q2 (by omega), fun h => absurd h (by show ¬ wn w < zK; rw [hwn]; decide)⟩, q2.F h1⟩) q2.2.2 d18 BL.notSynchronized))
end TN
theorem uq180 : ∀ M ∈ zMs, mNum M = 180 → mCls M = 9 ∧ mLoc M ≤ 20 ∧ mArg M = 3 := by decide +kernel
theorem uq181 : ∀ M ∈ zMs, mNum M = 181 → mCls M = 9 ∧ mLoc M ≤ 20 ∧ mArg M = 3 := by decide +kernel
