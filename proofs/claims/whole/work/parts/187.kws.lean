/-! the walk of the machine gives what the law's loop wants -/
section KWS
variable {dC : Nat → ClassId} {dI : Nat → Nat → Nat} {dA : Nat → ClassId} {B L : Nat} {xs : Nat → Int32} {sa : Nat → Nat} {a1 a2 : Nat}
variable {p : Program} {l : Launch} {e : Env} {s : State} {m : MethodId} {args : Array Value} {below : List Frame} {meth : Method} {c : Code} {Q : State → Prop}
abbrev KW (dC : Nat → ClassId) (dI : Nat → Nat → Nat) (dA : Nat → ClassId) (B L : Nat) (xs : Nat → Int32) (sa : Nat → Nat) (p : Program) (l : Launch) (e : Env) (s : State) (m : MethodId) (args : Array Value) (below : List Frame) (meth : Method) (c : Code) (Q : State → Prop) (t : Nat) (a : Cfg) : Prop :=
  zWk dC dI dA B L xs sa M0 p l e room_1 s m args below meth c (fun n => n + t) (fun n => zslt n + 6 * t) Q a
theorem zslt_192 : zslt 192 ≤ 7280000 := by decide +kernel
theorem in_ws {w : Cond} (h1 : w ∈ lw_tbl) (h2 : goodWord w = true) : w ∈ zWS := List.mem_filter.mpr ⟨h1, h2⟩
theorem y400 : (zy 400).cls = "RugReaderLaw" ∧ plainName (zy 400).cls = true ∧ ((zy 400).cls ≠ "java/lang/invoke/MethodHandle" ∧ (zy 400).cls ≠ "java/lang/invoke/VarHandle" ∧ (parseMethodDescriptor (zy 400).desc).map (fun d => d.parameters.length) = some 4) := by decide +kernel
theorem y401 : (zy 401).cls = "RugReaderLaw" ∧ plainName (zy 401).cls = true ∧ ((zy 401).cls ≠ "java/lang/invoke/MethodHandle" ∧ (zy 401).cls ≠ "java/lang/invoke/VarHandle" ∧ (parseMethodDescriptor (zy 401).desc).map (fun d => d.parameters.length) = some 4) := by decide +kernel
theorem pn180 : plainName (zy 180).cls = true ∧ plainName (zy 181).cls = true := by decide +kernel
theorem in180 : M180 ∈ zMs ∧ M181 ∈ zMs := by decide +kernel
theorem lwk (hflag : ∀ M ∈ zMs.drop 1, zchk M = true ∧ zloc M = true) (hM0 : zchk M0 = true ∧ zloc M0 = true) (hls : l.stackTraces = false) (hC : zCtx dC dI dA B L xs sa M0 p s m args meth c room_1) (hZ : zXZ B a1 a2 s s.heap) {w0 : Wd}
    (hEnd : ∀ t i w, t ≤ 512 → wn w = 192 → KW dC dI dA B L xs sa p l e s m args below meth c Q t (1289, LV i, [.int 1], w)) : LWK w0 (KW dC dI dA B L xs sa p l e s m args below meth c Q) := by
  have hE := zmet (dC := dC) (dI := dI) (dA := dA) (B := B) (L := L) (xs := xs) (sa := sa) (l := l) hflag 60
  have h4 := in_ws th_w4.2.1 th_w4.1
  have h5 := in_ws th_w4.2.2.2 th_w4.2.2.1
  have i4 : Cond.initialized (zy 400).cls ∈ zWS := by rw [y400.1]; exact in_ws th_l4.2.2.2.2.1 th_l6.2.2.2.2.1
  have i5 : Cond.initialized (zy 401).cls ∈ zWS := by rw [y401.1]; exact in_ws th_l4.2.2.2.2.1 th_l6.2.2.2.2.1
  have rm : 62 + 1 ≤ room_1.frames ∧ 8 + (5 + 11) + 2048 ≤ room_1.locals := by decide
  have cap : ∀ t d, t + d ≤ 600 → 192 + t + d ≤ room_1.cells ∧ zslt 192 + 6 * t + 6 * d ≤ room_1.slots := by
    intro t d h
    have := zslt_192
    show 192 + t + d ≤ 601024 ∧ zslt 192 + 6 * t + 6 * d ≤ 7293034
    omega
  refine ⟨?_, hEnd, ?_, ?_, ?_, ?_⟩
  · rintro t a b ht ⟨n, hp⟩ ha hb k
    refine zpath hM0.1 hM0.2 hC hE (show 60 + 1 ≤ 2048 by decide) (show 32 * (60 + 1) ≤ 84000 by decide) (cf := fun n => n + t) (sf := fun n => zslt n + 6 * t) (n0 := 192) (nE := 192) (fun x y h1 h2 => ?_) (fun n h1 h2 => ?_) (fun n h1 h2 => ?_) n hp (by omega) (by omega) k
    · have q1 := zslt_mono h2
      omega
    · have : zK = 192 := rfl
      omega
    · have e : n = 192 := by omega
      subst e
      have := cap t 0 (by omega)
      omega
  · intro t i w p' q v ht hT _ hx k H locs ls hA
    obtain ⟨-, hEv⟩ := ev_180 (d := 60) (by decide) hT i0 _ _ hx
    have hn : wn (sL w 191 0 v.toInt64) = 192 := hT.1
    have hM := ret_met (a1 := a1) (a2 := a2) hE uq180 rfl rfl y400.1 y400.2.1 d400 th_l5.1 th_l6.2.2.2.2.2.2.1 hT.1 hEv
    have cp := cap t 0 (by omega)
    have g := site (R := room_1) (below := below) (e := e) (cells := wn w + t) (slots := zslt (wn w) + 6 * t) (Q := Q) (lv := LV i) hC hZ d0x.1 (in_ws th_l4.1 th_l6.1) (in_ws th_l4.2.1 th_l6.2.1) i4 h4 y400.2.2 hT.1 hM rm (by rw [hT.1]; omega) (fun H1 locs1 ls1 h => ?_) H locs ls hA
    · exact g
    · have := k H1 locs1 ls1 h
      have e1 : 192 + t = wn w + t + 0 := by rw [hT.1, Nat.add_zero]
      have e2 : zslt 192 + 6 * t = zslt (wn w) + 6 * t + 0 := by rw [hT.1, Nat.add_zero]
      dsimp only at this
      rw [hn, e1, e2] at this
      exact this
  · intro t i w p' q S ht hT _ hS _ ho k H locs ls hA
    obtain ⟨kn, hp⟩ := thr180 hT hS ho
    have hTh := th_met (dC := dC) (dI := dI) (dA := dA) (B := B) (L := L) (xs := xs) (sa := sa) (a1 := a1) (a2 := a2) hflag hls in180.1 (n := 180) rfl (by decide) rfl pn180.1 (by decide) (as := [.ref 0, .int p', .int q]) (w := w) (text := tx1) (q1 := a1) (is := 136) (fun U H h => h.2.2.1) (Nat.le_of_ble_eq_true rfl) hT.1 hp th_dec.1 th_dec.2.1 th_dec.2.2.1 th_dec.2.2.2.1 th_dec.2.2.2.2
    have hM := catch_met in180.1 (n := 180) rfl (by decide) rfl rfl (by decide) rfl (by decide) y400.1 y400.2.1 d400 th_l5.1 th_l6.2.2.2.2.2.2.1 hT.1 hTh
    have cp := cap t 1 (by omega)
    have g := site (R := room_1) (below := below) (e := e) (cells := wn w + t) (slots := zslt (wn w) + 6 * t) (Q := Q) (lv := LV i) hC hZ d0x.1 (in_ws th_l4.1 th_l6.1) (in_ws th_l4.2.1 th_l6.2.1) i4 h4 y400.2.2 hT.1 hM rm (by rw [hT.1]; omega) (fun H1 locs1 ls1 h => ?_) H locs ls hA
    · exact g
    · have e1 : wn w + (t + 1) = wn w + t + 1 := by omega
      have e2 : zslt (wn w) + 6 * (t + 1) = zslt (wn w) + 6 * t + 6 := by omega
      have := k H1 locs1 ls1 h
      dsimp only at this
      rw [e1, e2] at this
      exact this
  · intro t i w p' q v ht hT _ hx k H locs ls hA
    obtain ⟨-, hEv⟩ := ev_181 (d := 60) (by decide) hT i0 _ _ hx
    have hn : wn (sL w 191 0 v.toInt64) = 192 := hT.1
    have hM := ret_met (a1 := a1) (a2 := a2) hE uq181 rfl rfl y401.1 y401.2.1 d401 th_l5.2 th_l6.2.2.2.2.2.2.2 hT.1 hEv
    have cp := cap t 0 (by omega)
    have g := site (R := room_1) (below := below) (e := e) (cells := wn w + t) (slots := zslt (wn w) + 6 * t) (Q := Q) (lv := LV i) hC hZ d0x.2 (in_ws th_l4.2.2.1 th_l6.2.2.1) (in_ws th_l4.2.2.2.1 th_l6.2.2.2.1) i5 h5 y401.2.2 hT.1 hM rm (by rw [hT.1]; omega) (fun H1 locs1 ls1 h => ?_) H locs ls hA
    · exact g
    · have := k H1 locs1 ls1 h
      have e1 : 192 + t = wn w + t + 0 := by rw [hT.1, Nat.add_zero]
      have e2 : zslt 192 + 6 * t = zslt (wn w) + 6 * t + 0 := by rw [hT.1, Nat.add_zero]
      dsimp only at this
      rw [hn, e1, e2] at this
      exact this
  · intro t i w p' q S ht hT _ hS _ ho k H locs ls hA
    obtain ⟨kn, hp⟩ := thr181 hT hS ho
    have hTh := th_met (dC := dC) (dI := dI) (dA := dA) (B := B) (L := L) (xs := xs) (sa := sa) (a1 := a1) (a2 := a2) hflag hls in180.2 (n := 181) rfl (by decide) rfl pn180.2 (by decide) (as := [.ref 0, .int p', .int q]) (w := w) (text := tx2) (q1 := a2) (is := 152) (fun U H h => h.2.2.2.1) (Nat.le_of_ble_eq_true rfl) hT.1 hp th_dec2.1 th_dec2.2.1 th_dec2.2.2.1 th_dec2.2.2.2.1 th_dec2.2.2.2.2
    have hM := catch_met in180.2 (n := 181) rfl (by decide) rfl rfl (by decide) rfl (by decide) y401.1 y401.2.1 d401 th_l5.2 th_l6.2.2.2.2.2.2.2 hT.1 hTh
    have cp := cap t 1 (by omega)
    have g := site (R := room_1) (below := below) (e := e) (cells := wn w + t) (slots := zslt (wn w) + 6 * t) (Q := Q) (lv := LV i) hC hZ d0x.2 (in_ws th_l4.2.2.1 th_l6.2.2.1) (in_ws th_l4.2.2.2.1 th_l6.2.2.2.1) i5 h5 y401.2.2 hT.1 hM rm (by rw [hT.1]; omega) (fun H1 locs1 ls1 h => ?_) H locs ls hA
    · exact g
    · have e1 : wn w + (t + 1) = wn w + t + 1 := by omega
      have e2 : zslt (wn w) + 6 * (t + 1) = zslt (wn w) + 6 * t + 6 := by omega
      have := k H1 locs1 ls1 h
      dsimp only at this
      rw [e1, e2] at this
      exact this
end KWS
