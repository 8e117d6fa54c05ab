/-! what is thrown: the way to it -/
def lv3 (p q : Int32) : List (Nat × Value) := [(0, .ref 0), (1, .int p), (2, .int q)]
section TP3
variable {w : Wd} {S : Nat → Int32} {p q : Int32}
theorem thr_path {M : Mth} {nx P P9 c1 a : Nat} {bnd : Int32} {b1 : Bool} (o0 : opAt (mCode M) 0 = some ((4, 0, 0, 0), 1)) (o1 : opAt (mCode M) 1 = some ((49, 9, 2, 0), 4)) (o4 : opAt (mCode M) 4 = some ((2, 1, 0, 0), 5)) (o5 : opAt (mCode M) 5 = some ((39, nx, 0, 0), 8)) (o8 : opAt (mCode M) 8 = some ((18, 0, P, 0), 11))
    (o11 : opAt (mCode M) 11 = some ((2, 2, 0, 0), 12)) (o12 : opAt (mCode M) 12 = some ((18, 2, P, 0), 15)) (o15 : opAt (mCode M) 15 = some ((2, 2, 0, 0), 16)) (o16 : opAt (mCode M) 16 = some ((0, 0, 0, bnd), c1)) (oc : opAt (mCode M) c1 = some ((19, 5, P9, 0), P))
    (hT : TY w) (hr : wR w 0 2 = some a) (hE : Ev 59 nx [.ref a, .int p] w (some (.int (bi b1))) w) (hno : b1 = false ∨ q < 0 ∨ ¬ q ≤ bnd) : PT (Ev 59) M (0, lv3 p q, [], w) (P, lv3 p q, [], w) := by
  refine PT.st o0 rfl (PT.st (b := (4, lv3 p q, [.ref a], w)) o1 ?_ (PT.st (b := (5, lv3 p q, [.int p, .ref a], w)) o4 rfl ?_))
  · show (if zobj w 0 9 = true then some (4, lv3 p q, va_rf (wR w 0 2) :: [], w) else none) = _
    have hz : zobj w 0 9 = true := by
      unfold zobj
      rw [hT.1]
      decide +kernel
    rw [if_pos hz, hr]
    rfl
  · refine PT.z (b := (8, lv3 p q, [.int (bi b1)], w)) (Or.inl ⟨_, _, o5, Or.inr ⟨rfl, [.ref a, .int p], [], some (.int (bi b1)), w, rfl, hE, by decide, rfl⟩⟩) ?_
    cases b1 with
    | false => exact PT.st (b := (P, lv3 p q, [], w)) o8 rfl PT.refl
    | true =>
      refine PT.st (b := (11, lv3 p q, [], w)) o8 rfl (PT.st o11 rfl ?_)
      by_cases h0 : q < 0
      · refine PT.st (b := (P, lv3 p q, [], w)) o12 ?_ PT.refl
        show some (bif decide (q < 0) then P else 15, lv3 p q, ([] : List Value), w) = _
        rw [decide_eq_true h0]
        rfl
      · refine PT.st (b := (15, lv3 p q, [], w)) o12 ?_ (PT.st o15 rfl (PT.st o16 rfl (PT.st (b := (P, lv3 p q, [], w)) oc ?_ PT.refl)))
        · show some (bif decide (q < 0) then P else 15, lv3 p q, ([] : List Value), w) = _
          rw [decide_eq_false h0]
          rfl
        · have hb : ¬ q ≤ bnd := by
            rcases hno with h | h | h
            · cases h
            · exact absurd h h0
            · exact h
          show some (bif decide (q ≤ bnd) then P9 else P, lv3 p q, ([] : List Value), w) = _
          rw [decide_eq_false hb]
          rfl
theorem no3 {b : Bool} {q bnd : Int32} (h : (b && (decide (0 ≤ q) && decide (q ≤ bnd))) = false) : b = false ∨ q < 0 ∨ ¬ q ≤ bnd := by
  cases b
  · exact Or.inl rfl
  · rw [Bool.true_and] at h
    by_cases h0 : 0 ≤ q
    · rw [decide_eq_true h0, Bool.true_and] at h
      exact Or.inr (Or.inr (of_decide_eq_false h))
    · exact Or.inr (Or.inl (Int32.not_le.mp h0))
theorem home_ist (hT : TY w) {a : Nat} (ha : wR w 0 2 = some a) : ist a 1 := by
  obtain ⟨-, -, -, ⟨b, e, h⟩, -⟩ := hT
  rw [ha] at e
  cases e
  exact h
theorem thr180 (hT : TY w) (hS : XS S w) (ho : okP S p q = false) : ∃ k, Pth (Ev 59) M180 k (0, lv3 p q, [], w) (20, lv3 p q, [], w) := by
  obtain ⟨hF, -, -, a, ha, hR⟩ := hS
  obtain ⟨-, hE⟩ := ev_69 (d := 59) (by decide) (p1 := p) hT (home_ist hT ha) _ _ (x_isPerson hF hR p)
  exact thr_path (nx := 69) (P9 := 30) (c1 := 17) (bnd := 5) rfl rfl rfl rfl rfl rfl rfl rfl rfl rfl hT ha hE (no3 ho)
theorem thr181 (hT : TY w) (hS : XS S w) (ho : okT S p q = false) : ∃ k, Pth (Ev 59) M181 k (0, lv3 p q, [], w) (21, lv3 p q, [], w) := by
  obtain ⟨hF, -, -, a, ha, hR⟩ := hS
  obtain ⟨-, hE⟩ := ev_56 (d := 59) (by decide) (p1 := p) hT (home_ist hT ha) _ _ (x_onRug hF hR p)
  exact thr_path (nx := 56) (P9 := 31) (c1 := 18) (bnd := 7) rfl rfl rfl rfl rfl rfl rfl rfl rfl rfl hT ha hE (no3 ho)
end TP3
section SI
variable {dC : Nat → ClassId} {dI : Nat → Nat → Nat} {dA : Nat → ClassId} {B L : Nat} {xs : Nat → Int32} {sa : Nat → Nat} {a1 a2 : Nat}
variable {p : Program} {l : Launch} {e : Env} {R : Room} {s : State} {m : MethodId} {args : Array Value} {below : List Frame} {meth : Method} {c : Code} {Q : State → Prop}
theorem site {pc idx4 : Nat} {y4 : MethodName} {cc : ByteArray} (hC : zCtx dC dI dA B L xs sa M0 p s m args meth c R) (hZ : zXZ B a1 a2 s s.heap) (hd : decode (zby 0) pc = .ok (.invokestatic idx4, 3)) (hl : Cond.methodLink "RugReaderLaw" idx4 y4 ∈ zWS) (hs : Cond.static y4 ∈ zWS) (hi : Cond.initialized y4.cls ∈ zWS) (hcw : Cond.codeWith y4 cc 5 (some .int) [(0, 10, 13, 13)] ∈ zWS)
    (hy : y4.cls ≠ "java/lang/invoke/MethodHandle" ∧ y4.cls ≠ "java/lang/invoke/VarHandle" ∧ (parseMethodDescriptor y4.desc).map (fun d => d.parameters.length) = some 4) {mc ms : Nat} {a b k : Int32} {w w1 : Wd} (hwn : wn w = 192)
    (hMet : Met l y4 (Cond.codeWith y4 cc 5 (some .int) [(0, 10, 13, 13)] :: zWS) { frames := 62, cells := mc, slots := ms, locals := 2048 } (va_Pc (([.ref 0, .int a, .int b, .ref 191] : List Value).map (ztr B sa)) (fun U => zGX dC dI dA B L xs sa a1 a2 w U))
      (fun _ st o t => o = .returned ((some (Value.int k)).map (ztr B sa)) ∧ zG dC dI dA B L xs sa w1 t ∧ va_F (zA B) st t) mc ms (zA B))
    (hR : 62 + 1 ≤ R.frames ∧ 8 + (5 + 11) + 2048 ≤ R.locals) {cells slots : Nat} (hcap : cells + mc ≤ R.cells ∧ slots + ms ≤ R.slots) {lv : List (Nat × Value)}
    (kk : ∀ (H1 : Heap) (locs1 : List Loc) (ls1 : Array Slot), zAt dC dI dA B L xs sa M0 s w1 lv H1 locs1 ls1 → W p l e R s m args below meth c H1 locs1 (cells + mc) (slots + ms) Q (F0 m (pc + 3) ls1 (([.int k] : List Value).map (ztr B sa))))
    (H : Heap) (locs : List Loc) (ls : Array Slot) (hA : zAt dC dI dA B L xs sa M0 s w lv H locs ls) : W p l e R s m args below meth c H locs cells slots Q (F0 m pc ls (([.ref 191, .int b, .int a, .ref 0] : List Value).map (ztr B sa))) := by
  obtain ⟨hx, hb, hml, hown, hts, hini, hK, hS, hN, hB, hfr, hlo, hc15⟩ := hC
  obtain ⟨hP, hSS, hScr, hl4⟩ := hA
  have hGI : GoodIn zWS (va_wsS "RugReaderLaw" idx4 y4 (Cond.codeWith y4 cc 5 (some .int) [(0, 10, 13, 13)] :: zWS)) := by
    have key : ∀ x, x ∈ zWS → x ∈ zWS ∧ ((x.onTables && x.keeps) = true ∨ ∃ ty, x = .arrayClass ty) := fun x q => ⟨q, good_of_word (List.mem_filter.mp q).2⟩
    intro x hx
    unfold va_wsS at hx
    rcases List.mem_append.mp hx with h | h
    · simp only [List.mem_cons, List.not_mem_nil, or_false] at h
      rcases h with h | h | h
      · rw [h]; exact key _ hl
      · rw [h]; exact key _ hs
      · rw [h]; exact key _ hi
    · rcases List.mem_cons.mp h with h | h
      · rw [h]; exact key _ hcw
      · exact key _ h
  have cw := vx_cwSW (R := R) (s := s) (args := args) (own := "RugReaderLaw") (index := idx4) (maxL := 5) (mc := mc) (ms := ms) (y := y4) (bytes := cc) (ret := some .int) (hh := [(0, 10, 13, 13)]) (Ts := zWS) (rm := { frames := 62, cells := mc, slots := ms, locals := 2048 }) 4 hts hGI rfl rfl rfl hy hR
  have hpre : ∀ U : State, U.heap = H → s.WarmedH U.vm → va_Pc (([.ref 0, .int a, .int b, .ref 191] : List Value).map (ztr B sa)) (fun U => zGX dC dI dA B L xs sa a1 a2 w U) (([.ref 0, .int a, .int b, .ref 191] : List Value).map (ztr B sa)).toArray U := by
    intro U hU hW
    refine ⟨rfl, ⟨by rw [hU]; exact hP, va_K.moved hW.alike hK, by rw [hU]; exact hS.go hSS hW.alike, hN.warm hW, hScr, by rw [hU]; exact zhp_low hP hSS hB, fun h => absurd h (by rw [hwn]; decide)⟩, ?_⟩
    rw [hU]
    exact hZ.go hSS hW
  have hr := vx_runSW (p := p) (l := l) (e := e) (m := m) (below := below) (meth := meth) (c := c) (cells := cells) (slots := slots) (locs := locs) (H := H) (As := ([.ref 0, .int a, .int b, .ref 191] : List Value).map (ztr B sa)) (rest := ([] : List Value).map (ztr B sa)) (g := F0 m pc ls (([.ref 191, .int b, .int a, .ref 0] : List Value).map (ztr B sa))) ⟨hx, hb, hml, hown, hts⟩ hMet cw ⟨zGX.bl, hpre⟩ rfl rfl hl4.1 rfl (show 2 * 0 + 0 ≤ 8 by decide) hd hcap
  exact zafter (w := w) (w1 := w1) (r := some (.int k)) (aa := #[]) (M := M0) (lv := lv) (rest := []) (npc := pc + 3) rfl hr hSS hl4 kk
end SI
