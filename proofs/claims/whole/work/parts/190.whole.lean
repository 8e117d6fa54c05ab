/-! THE CLAIM OUT OF ONE WALK OF THE LAW'S BODY. Your part is whole_start (and what it stands on); all else here is the same for every law, but numbers. -/
def R_law : String := "RugReaderLaw"
def lw_P (b : Addr) (xs : List Int32) (args : Array Value) (s : State) : Prop := args = #[.ref b] ∧ s.IntsAt b xs ∧ xs.length ≤ 3072 ∧ (Jvm.Cond.and given_1 narrow_1).before args s = true
def lw_Q (_ : Array Value) (s : State) (o : Outcome) (t : State) : Prop := o = .returned (some (.int 1)) ∧ Framed s o t [] 601024 7293034
def lw_Z (below : List Frame) (a : Array Value) (s : State) : State → Prop := fun t => ∃ o, t.status = .running ∧ Ended t below o ∧ lw_Q a s o t
/-- the law's own end, with 1 on the stack, nothing written that was there before, its room as the claim has it -/
theorem lw_ret {p : Program} {l : Launch} {e : Env} {s : State} {m : MethodId} {below : List Frame} {meth : Method} {c : Code} {b : Nat} (hx : p.tables.exec = Jvm.exec) (hb : c.code = code) (hr : meth.sig.returnType = ret) (hlocks : meth.locks = false) {pc : Nat} {H : Heap} {ls : Array Slot} (hdg : decode code pc = .ok (.ireturn, 1)) : W p l e room_1 s m #[Value.ref b] below meth c H [] 601024 7293034 (lw_Z below #[Value.ref b] s) (F0 m pc ls [.int 1]) := by
  intro T hT X
  obtain ⟨fs, hret, hrun, hended, hW, hframe⟩ := X.leave (v := some (.int 1)) (hlocks := hlocks) (fun h => by rw [hr] at h; cases h)
  have hmeth' : T.vm.method? m = some meth := X.method'
  refine ⟨T.setFrames fs, ?_, .returned (some (.int 1)), hrun, hended, rfl, ⟨_, rfl⟩, hW, hframe⟩
  jvm_step X.here [X.here.top, hx, hb, hdg, hmeth', hr, ret, narrow_b1]
  (try refine ⟨rfl, ?_⟩); (try refine ⟨rfl, ?_⟩)
  first | (intro acts; rw [hret _ acts rfl rfl rfl]) | rw [hret _ _ rfl rfl rfl]
  exact Steps.refl _
/-- what holds at the law's entry: the machine, the code, the tables' words (any of lw_tbl by 'hts w (by decide +kernel)'), the script of L ints xs at the cell b, what the Statement gives of the start (any of its parts by flat_of_before) -/
def lw_At (p : Program) (s : State) (m : MethodId) (meth : Method) (c : Code) (b L : Nat) (xs : Nat → Int32) : Prop :=
  p.tables.exec = Jvm.exec ∧ c.code = code ∧ meth.sig.returnType = ret ∧ c.maxLocals = 7 ∧ s.vm.findClass R_law = some m.cls ∧ (∀ w ∈ lw_tbl, w.before #[Value.ref b] s = true) ∧ va_X b L xs s s.heap ∧ b < s.heap.size ∧ meth.locks = false ∧ (Jvm.Cond.and given_1 narrow_1).before #[Value.ref b] s = true
section WS
/-- the world at the start -/
def w00 (L : Nat) (xs : Nat → Int32) : Wd := (0, 0, fun k j => if k = 1000 then xs j else if k = 1003 then (if j = 0 then nI L else 0) else 0, fun _ _ => 0, fun _ _ => none)
theorem whole_of (hflag : ∀ M ∈ zMs.drop 1, zchk M = true ∧ zloc M = true) (hM0 : zchk M0 = true ∧ zloc M0 = true) {p : Program} {e : Env} {s : State} {m : MethodId} {below : List Frame} {meth : Method} {c : Code} (l : Launch) (hflags : l.flags = flags0) {b L : Nat} {xs : Nat → Int32} (hL : L ≤ 3072) (C0 : lw_At p s m meth c b L xs) : W p l e room_1 s m #[Value.ref b] below meth c s.heap [] 0 0 (lw_Z below #[Value.ref b] s) (entryFrame m ([Value.ref b] : List Value).toArray 7) := by
  obtain ⟨hx, hcode, hret, hml, hown, hts, hX, hb, hlocks, hgv⟩ := C0
  have hgvL : ∀ w ∈ gvL, w.before #[Value.ref b] s = true := flat_of_before _ hgv
  have hls : l.stackTraces = false := by
    unfold Launch.stackTraces
    rw [hflags]
    decide +kernel
  obtain ⟨dC, dI, dA, hK⟩ := st_K hts
  obtain ⟨a1, a2, hZ⟩ := st_Z hts hgvL
  obtain ⟨sa, hsa, hS⟩ := st_S hts hgvL hX hb (by omega)
  have hN : zNs s := by
    refine ⟨fun w hw => ?_, fun w hw => ?_, va_AO.of (hts _ st_a.2.2.2.2.1), va_AO.of (hts _ st_a.2.2.2.2.2.1), va_AO.of (hts _ st_a.2.2.2.2.2.2)⟩
    · have := hts w (st_n.1 w hw)
      obtain ⟨a, i, x, h, rfl⟩ := zNest_form.1 w hw
      exact va_Nw.of rfl this
    · have := hts w (st_n.2 w hw)
      obtain ⟨a, i, b, n, d, h, rfl⟩ := zNest_form.2 w hw
      exact va_Nw.of rfl this
  have hC : zCtx dC dI dA s.heap.size L xs sa M0 p s m #[Value.ref b] meth c room_1 := ⟨hx, hcode, hml, hown, fun w hw => hts w (List.mem_filter.mp hw).1, fun h => absurd h (by decide), hK, hS, hN, Nat.le_refl _, by decide, by decide, by decide⟩
  have hE := zmet (dC := dC) (dI := dI) (dA := dA) (B := s.heap.size) (L := L) (xs := xs) (sa := sa) (l := l) hflag 60
  have hLW : LWK (w00 L xs) (KW dC dI dA s.heap.size L xs sa p l e s m #[Value.ref b] below meth c (lw_Z below #[Value.ref b] s)) := by
    refine lwk hflag hM0 hls hC hZ (fun t i w ht hw H locs ls hA => ?_)
    obtain ⟨-, hSS, -, -⟩ := hA
    dsimp only at hSS ⊢
    have h192 := zslt_192
    rw [hw]
    refine W.widen (k := 601024) (n := 7293034) (by omega) (by omega) (va_forget (fun q hq => hSS.2.2 q hq) (lw_ret hx hcode hret hlocks (by decide +kernel)))
  obtain ⟨w, hT, hB, k, hp⟩ := pre_run (w0 := w00 L xs) rfl
  have hloop := law_loop hLW (Ln := L) rfl hL 512 0 0 w rfl (Nat.le_refl _) hT hB
  have h192 := zslt_192
  have kst := zpath hM0.1 hM0.2 hC hE (show 60 + 1 ≤ 2048 by decide) (show 32 * (60 + 1) ≤ 84000 by decide) (cf := fun n => n + 0) (sf := fun n => zslt n + 6 * 0) (n0 := 0) (nE := 192) (fun x y h1 h2 => by
      have := zslt_mono h2
      omega) (fun n h1 h2 => by omega) (fun n h1 h2 => by
      have := zslt_mono h2
      show n + 0 ≤ 601024 ∧ zslt n + 6 * 0 ≤ 7293034
      omega) k hp (Nat.zero_le _) (Nat.le_of_eq hT.1) hloop
  have hl := lv_entry ([Value.ref b] : List Value) (n := 7) (Nat.le_of_ble_eq_true rfl)
  rw [lg_entry_eq]
  generalize (lg_sl ([Value.ref b] : List Value) ++ List.replicate (7 - (lg_sl ([Value.ref b] : List Value)).length) Slot.unset).toArray = ls at hl ⊢
  have el : zlv s.heap.size sa [(0, Value.ref 1000)] = lv_args 0 ([Value.ref b] : List Value) := by
    show [(0, Value.ref (zad s.heap.size sa 1000))] = [(0, Value.ref b)]
    have : zad s.heap.size sa 1000 = b := hsa
    rw [this]
  have kk := kst s.heap [] ls ⟨⟨fun k q h => (by cases h), Nat.zero_le _⟩, va_S.rf, ⟨fun j => rfl, rfl, by omega⟩, by rw [el]; exact hl⟩
  exact kk
end WS
