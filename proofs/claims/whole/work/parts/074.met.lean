/-! a whole method: the small machine's doing is a contract of the real one -/
section ZV
variable {dC : Nat → ClassId} {dI : Nat → Nat → Nat} {dA : Nat → ClassId} {B L : Nat} {xs : Nat → Int32} {sa : Nat → Nat}
variable {p : Program} {l : Launch} {e : Env} {R : Room} {s : State} {m : MethodId} {args : Array Value} {below : List Frame} {meth : Method} {c : Code} {Q : State → Prop}
theorem trI_ret {cc pc : Nat} {i : Instr} {op : Op4} (hI : trI cc pc i = some op) : (op.1 = 41 → i = .return_) ∧ (op.1 = 42 → i = .ireturn) ∧ (op.1 = 43 → i = .lreturn) ∧ (op.1 = 44 → i = .areturn) := by
  cases i
  case getfield j =>
    simp only [trI] at hI
    cases hr : lkF cc j with
    | none => rw [hr] at hI; cases hI
    | some r =>
      rw [hr] at hI
      simp only [Option.bind_some, gOp] at hI
      repeat' split at hI
      all_goals first | (cases hI; done) | (cases hI; simp)
  case putfield j =>
    simp only [trI] at hI
    cases hr : lkF cc j with
    | none => rw [hr] at hI; cases hI
    | some r =>
      rw [hr] at hI
      simp only [Option.bind_some, pOp] at hI
      repeat' split at hI
      all_goals first | (cases hI; done) | (cases hI; simp)
  case tableswitch d lo hi offs =>
    simp only [trI] at hI
    cases hr : lkW cc pc with
    | none => rw [hr] at hI; cases hI
    | some r =>
      rw [hr] at hI
      simp only [Option.bind_some] at hI
      split at hI
      · cases hI; simp
      · cases hI
  case newarray t => cases t <;> simp only [trI] at hI <;> first | (cases hI; done) | (cases hI; simp)
  case ifCond kd off => simp only [trI] at hI; obtain ⟨hI, -⟩ := ztgt hI; subst hI; simp
  case if_icmp kd off => simp only [trI] at hI; obtain ⟨hI, -⟩ := ztgt hI; subst hI; simp
  case if_acmp kd off => simp only [trI] at hI; obtain ⟨hI, -⟩ := ztgt hI; subst hI; simp
  case ifnull off => simp only [trI] at hI; obtain ⟨hI, -⟩ := ztgt hI; subst hI; simp
  case ifnonnull off => simp only [trI] at hI; obtain ⟨hI, -⟩ := ztgt hI; subst hI; simp
  case goto off => simp only [trI] at hI; obtain ⟨hI, -⟩ := ztgt hI; subst hI; simp
  case invokevirtual j =>
    simp only [trI, mOp] at hI
    cases hr : lkM cc j with
    | none => rw [hr] at hI; cases hI
    | some r =>
      rw [hr] at hI
      simp only [Option.bind_some] at hI
      repeat' split at hI
      all_goals first | (cases hI; done) | (cases hI; simp)
  case invokestatic j =>
    simp only [trI, mOp] at hI
    cases hr : lkM cc j with
    | none => rw [hr] at hI; cases hI
    | some r =>
      rw [hr] at hI
      simp only [Option.bind_some] at hI
      repeat' split at hI
      all_goals first | (cases hI; done) | (cases hI; simp)
  case invokespecial j =>
    simp only [trI, mOp] at hI
    cases hr : lkM cc j with
    | none => rw [hr] at hI; cases hI
    | some r =>
      rw [hr] at hI
      simp only [Option.bind_some] at hI
      repeat' split at hI
      all_goals first | (cases hI; done) | (cases hI; simp)
  all_goals first | (simp only [trI] at hI; cases hI; done) | (simp only [trI, Option.some.injEq] at hI; subst hI; simp; done) | (simp only [trI] at hI; rw [Option.map_eq_some_iff] at hI; obtain ⟨_, -, hI⟩ := hI; subst hI; simp; done)
/-- the end of a method -/
theorem zend {M : Mth} (hM : zchk M = true) (C : zCtx dC dI dA B L xs sa M p s m args meth c R) (hr : meth.sig.returnType = zrt (mNum M)) (hrk : zrk (mRet M) (zrt (mNum M)) = true) (hlocks : meth.locks = false) {cf sf : Nat → Nat} {a : Cfg} {op : Op4} {npc n0 : Nat} {r : Option Value}
    (ho : opAt (mCode M) a.1 = some (op, npc)) (hf : zfin M op a.2.2.1 = some r) (hn0 : n0 ≤ wn a.2.2.2) (hex : ∀ n, n0 ≤ n → n < zK → s.heap.size + cf n ≤ B + n) :
    zWk dC dI dA B L xs sa M p l e R s m args below meth c cf sf (MQ below (fun _ st o t => o = .returned (r.map (ztr B sa)) ∧ zG dC dI dA B L xs sa a.2.2.2 t ∧ va_F (zA B) st t) args s (cf (wn a.2.2.2)) (sf (wn a.2.2.2)) (zA B)) a := by
  obtain ⟨i, len, hd, hln, hn, hI⟩ := zdec_op hM ho
  obtain ⟨hx, hb, hml, hown, hts, hini, hK, hS, hN, hB, hfr, hlo, hc15⟩ := C
  obtain ⟨pc, lv, st, w⟩ := a
  intro H locs ls hA
  obtain ⟨hP, hSS, hScr, hl⟩ := hA
  dsimp only at hP hSS hScr hl ho hf hn0 ⊢
  obtain ⟨t1, t2, t3, t4⟩ := trI_ret hI
  have hlow := zhp_low hP hSS hB
  have key : (wn w < zK → H.size ≤ B + wn w) → W p l e R s m args below meth c H locs (cf (wn w)) (sf (wn w)) (MQ below (fun _ st o t => o = .returned (r.map (ztr B sa)) ∧ zG dC dI dA B L xs sa w t ∧ va_F (zA B) st t) args s (cf (wn w)) (sf (wn w)) (zA B)) (F0 m pc ls (st.map (ztr B sa))) := by
    intro hup
    have hq : ∀ t : State, t.heap = H → s.WarmedH t.vm → zG dC dI dA B L xs sa w t ∧ va_F (zA B) s t := fun t ht hW => ⟨⟨by rw [ht]; exact hP, va_K.moved hW.alike hK, by rw [ht]; exact hS.go hSS hW.alike, hN.warm hW, hScr, by rw [ht]; exact hlow, fun h => by rw [ht]; exact hup h⟩, hSS.F ht⟩
    unfold zfin at hf
    split at hf
    · rename_i e1
      rw [t1 e1] at hd hln
      have hln := Nat.eq_of_beq_eq_true hln; subst hln
      split at hf
      · rename_i e0
        cases hf
        rw [e0] at hrk
        exact W.vret hx hb (hr.trans (by simpa [zrk] using hrk)) (fun t h1 h2 => ⟨rfl, hq t h1 h2⟩) hSS.2.2 hd hlocks
      · cases hf
    · rename_i x e1
      rw [t2 e1] at hd hln
      have hln := Nat.eq_of_beq_eq_true hln; subst hln
      split at hf
      · rename_i e0
        cases hf
        rcases e0 with e0 | ⟨e0, h01⟩
        · rw [e0] at hrk
          exact W.iret hx hb (hr.trans (by simpa [zrk] using hrk)) (fun t h1 h2 => ⟨rfl, hq t h1 h2⟩) hSS.2.2 hd hlocks
        · rw [e0] at hrk
          exact W.zret (ty := .boolean) hx hb (hr.trans (by simpa [zrk] using hrk)) (by rcases h01 with h | h <;> subst h <;> decide +kernel) (fun t h1 h2 => ⟨rfl, hq t h1 h2⟩) hSS.2.2 hd hlocks
      · cases hf
    · rename_i x e1
      rw [t3 e1] at hd hln
      have hln := Nat.eq_of_beq_eq_true hln; subst hln
      split at hf
      · rename_i e0
        cases hf
        rw [e0] at hrk
        exact W.lret hx hb (hr.trans (by simpa [zrk] using hrk)) (fun t h1 h2 => ⟨rfl, hq t h1 h2⟩) hSS.2.2 hd hlocks
      · cases hf
    · rename_i x e1
      rw [t4 e1] at hd hln
      have hln := Nat.eq_of_beq_eq_true hln; subst hln
      split at hf
      · rename_i e0
        cases hf
        rw [e0] at hrk
        unfold zrk at hrk
        split at hrk
        all_goals first | (exfalso; omega) | skip
        split at hrk
        · rename_i nm hz
          exact W.aret (v := ztr B sa (.ref x)) hx hb (hr.trans hz) (Or.inl ⟨_, rfl⟩) (Or.inr ⟨_, rfl⟩) (fun t h1 h2 => ⟨rfl, hq t h1 h2⟩) hSS.2.2 hd hlocks
        · cases hrk
      · cases hf
    · rename_i e1
      rw [t4 e1] at hd hln
      have hln := Nat.eq_of_beq_eq_true hln; subst hln
      split at hf
      · rename_i e0
        cases hf
        rw [e0] at hrk
        unfold zrk at hrk
        split at hrk
        all_goals first | (exfalso; omega) | skip
        split at hrk
        · rename_i nm hz
          exact W.aret (v := .null) hx hb (hr.trans hz) (Or.inl ⟨_, rfl⟩) (Or.inl rfl) (fun t h1 h2 => ⟨rfl, hq t h1 h2⟩) hSS.2.2 hd hlocks
        · cases hrk
      · cases hf
    · cases hf
  intro T hT X
  refine key (fun h => ?_) T hT X
  have q := X.heapSize
  rw [hT] at q
  have := hex (wn w) hn0 h
  omega
theorem zgr_c (t : Nat) : zgr t = 1 ∨ zgr t = 2 ∨ zgr t = 3 := by
  unfold zgr
  split <;> simp
theorem zst_mono {E : Evf} (hE : ∀ n as w r w1, E n as w r w1 → wn w ≤ wn w1 ∧ wx w1 = wx w) {M : Mth} {a b : Cfg} (h : Zst E M a b) : wn a.2.2.2 ≤ wn b.2.2.2 ∧ wx b.2.2.2 = wx a.2.2.2 := by
  rcases h with ⟨op, npc, -, h | ⟨-, as, rest, r, w1, -, hv, -, hb⟩⟩ | ⟨lv', -, hb⟩
  · exact zmono_p h
  · subst hb; exact hE _ _ _ _ _ hv
  · subst hb; exact ⟨Nat.le_refl _, rfl⟩
theorem pth_mono {E : Evf} (hE : ∀ n as w r w1, E n as w r w1 → wn w ≤ wn w1 ∧ wx w1 = wx w) {M : Mth} : ∀ (n : Nat) {a b : Cfg}, Pth E M n a b → wn a.2.2.2 ≤ wn b.2.2.2 ∧ wx b.2.2.2 = wx a.2.2.2
  | 0, a, b, h => by cases h; exact ⟨Nat.le_refl _, rfl⟩
  | n + 1, a, b, ⟨x, h1, h2⟩ => by
    obtain ⟨g1, g2⟩ := zst_mono hE h1
    obtain ⟨g3, g4⟩ := pth_mono hE n h2
    exact ⟨Nat.le_trans g1 g3, g4.trans g2⟩
/-- the walk along a path -/
theorem zpath {M : Mth} {d : Nat} {E : Evf} (hM : zchk M = true) (hL : zloc M = true) (C : zCtx dC dI dA B L xs sa M p s m args meth c R) (hE : zMet dC dI dA B L xs sa l d E) (hfr2 : d + 1 ≤ R.frames) (hlo2 : 32 * (d + 1) ≤ R.locals) {cf sf : Nat → Nat} {n0 nE : Nat}
    (hcf : ∀ a b, n0 ≤ a → a ≤ b → cf b = cf a + (b - a) ∧ sf b = sf a + (zslt b - zslt a)) (hex : ∀ n, n0 ≤ n → n < zK → s.heap.size + cf n ≤ B + n) (hcap : ∀ n, n0 ≤ n → n ≤ nE → cf n ≤ R.cells ∧ sf n ≤ R.slots) :
    ∀ (n : Nat) {a b : Cfg}, Pth E M n a b → n0 ≤ wn a.2.2.2 → wn b.2.2.2 ≤ nE → zWk dC dI dA B L xs sa M p l e R s m args below meth c cf sf Q b → zWk dC dI dA B L xs sa M p l e R s m args below meth c cf sf Q a
  | 0, a, b, h, _, _, k => by cases h; exact k
  | n + 1, a, b, ⟨x, h1, h2⟩, hn0, hnE, k => by
    have hm : ∀ n as w r w1, E n as w r w1 → wn w ≤ wn w1 ∧ wx w1 = wx w := fun n as w r w1 h => ⟨(hE n as w r w1 h).1, (hE n as w r w1 h).2.1⟩
    have m1 := (zst_mono hm h1).1
    have m2 := (pth_mono hm n h2).1
    have kx := zpath hM hL C hE hfr2 hlo2 hcf hex hcap n h2 (Nat.le_trans hn0 m1) hnE k
    have hcx := hcap (wn x.2.2.2) (Nat.le_trans hn0 m1) (Nat.le_trans m2 hnE)
    have hcf3 : ∀ n, n0 ≤ n → cf (n + 1) = cf n + 1 ∧ sf (n + 1) = sf n + (zsh n).2 := by
      intro q hq
      obtain ⟨g1, g2⟩ := hcf q (q + 1) hq (Nat.le_succ _)
      refine ⟨by rw [g1]; omega, ?_⟩
      rw [g2, show zslt (q + 1) = zslt q + (zsh q).2 from rfl]
      omega
    rcases h1 with ⟨op, npc, ho, h | ⟨h39, as, rest, r, w1, hst, hv, hsum, hb⟩⟩ | ⟨lv', hsub, hb⟩
    · rcases zgr_c op.1 with hg | hg | hg
      · exact zstep1 hM hL C ho h hg kx
      · exact zstep2 hM C ho h hg kx
      · exact zstep3 hM C ho h hg hn0 hcf3 hex hcx kx
    · subst hb
      obtain ⟨pc, lv, st, w⟩ := a
      exact zcall hM C hE hfr2 hlo2 ho h39 hst hv hsum hn0 hcf hex hcx kx
    · subst hb
      intro H locs ls hA
      exact kx H locs ls ⟨hA.1, hA.2.1, hA.2.2.1, zlv_sub hA.2.2.2 hsub⟩
theorem lg_sl_len (vs : List Value) : (lg_sl vs).length = (vs.map fun v => v.category).sum := by
  induction vs with
  | nil => rfl
  | cons v vs ih =>
    have e : lg_sl (v :: vs) = (if v.category = 2 then [.val v, .second] else [.val v]) ++ lg_sl vs := rfl
    rw [e, List.length_append, ih, List.map_cons, List.sum_cons]
    rcases lv_cat v with h | h <;> rw [h] <;> simp
/-- the machine's doing, as a contract -/
theorem zmet (hflag : ∀ M ∈ zMs.drop 1, zchk M = true ∧ zloc M = true) : ∀ d : Nat, zMet dC dI dA B L xs sa l d (Ev d)
  | 0 => fun _ _ _ _ _ h => h.elim
  | d + 1 => by
    intro n as w r w1 h
    obtain ⟨M, hMm, hnum, hnz, hlen, hcat, hrecv, k, b, op, npc, hpth, ho, hf, hw1⟩ := h
    have hE := zmet hflag d
    have hm : ∀ n as w r w1, Ev d n as w r w1 → wn w ≤ wn w1 ∧ wx w1 = wx w := fun n as w r w1 h => ⟨(hE n as w r w1 h).1, (hE n as w r w1 h).2.1⟩
    obtain ⟨m1, m2⟩ := pth_mono hm k hpth
    subst hw1
    dsimp only at m1 m2
    refine ⟨m1, m2, M, hMm, hnum, hnz, hlen, hrecv, ?_⟩
    have hMd := zMs_ne hMm (by rw [hnum]; exact hnz)
    obtain ⟨hM, hL⟩ := hflag M hMd
    have hmok := zmok_all M hMd
    unfold zmok at hmok
    simp only [Bool.and_eq_true, Bool.or_eq_true, decide_eq_true_eq, hnum, Bool.not_eq_true'] at hmok
    obtain ⟨⟨⟨⟨⟨⟨⟨⟨⟨⟨⟨⟨⟨hkw, hkwg⟩, hsel⟩, hcls⟩, hcl15⟩, hplain⟩, hmh⟩, hvh⟩, hpar⟩, harg1⟩, hloc12⟩, hrk⟩, hinit⟩, hclst⟩ := hmok
    refine va_MetF (cc := zby n) (maxL := mLoc M) (ret := zrt n) hplain (by unfold zcw; rw [hnum]) ?_
    intro p e s m args below meth c s₁ BL hml hv
    obtain ⟨rfl, hG⟩ := hv
    obtain ⟨hP, hK, hS, hN, hScr, hlow, hup⟩ := hG
    have hts := atoms_spec (ws := zcw M :: zWS) BL.pre
    have hown : s.vm.findClass (zC (mCls M)) = some m.cls := by rw [← hcls]; exact findClass_of_methodNamed BL.named
    have hC : zCtx dC dI dA B L xs sa M p s m (as.map (ztr B sa)).toArray meth c (headSpec (zcw M :: zWS) { frames := d + 1, cells := wn b.2.2.2 - wn w, slots := zslt (wn b.2.2.2) - zslt (wn w), locals := 32 * (d + 1) }).room := by
      refine ⟨BL.exec, by rw [hnum]; exact BL.bytes, hml, hown, fun q hq => hts q (List.mem_cons_of_mem _ hq), fun hi => ?_, hK, hS, hN, by omega, by show 1 ≤ d + 1; omega, by show 32 ≤ 32 * (d + 1); omega, hcl15⟩
      rw [hnum] at hi
      rcases hinit with q | q
      · rw [hi] at q; cases q
      · rw [← q.1]; exact (name_of_methodNamed BL.named BL.method).1
    have hl := lv_entry (as.map (ztr B sa)) (n := mLoc M) (by rw [lg_sl_len, ztr_sum]; exact hcat)
    rw [lg_entry_eq]
    generalize (lg_sl (as.map (ztr B sa)) ++ List.replicate (mLoc M - (lg_sl (as.map (ztr B sa))).length) Slot.unset).toArray = ls at hl ⊢
    rw [zlv_args] at hl
    have hcf : ∀ x y, wn w ≤ x → x ≤ y → (fun n => n - wn w) y = (fun n => n - wn w) x + (y - x) ∧ (fun n => zslt n - zslt (wn w)) y = (fun n => zslt n - zslt (wn w)) x + (zslt y - zslt x) := by
      intro x y h1 h2
      have q1 := zslt_mono h1
      have q2 := zslt_mono h2
      dsimp only
      omega
    have hex : ∀ n, wn w ≤ n → n < zK → s.heap.size + (fun n => n - wn w) n ≤ B + n := by
      intro q h1 h2
      have := hup (by omega)
      dsimp only
      omega
    have hcap : ∀ n, wn w ≤ n → n ≤ wn b.2.2.2 → (fun n => n - wn w) n ≤ (headSpec (zcw M :: zWS) { frames := d + 1, cells := wn b.2.2.2 - wn w, slots := zslt (wn b.2.2.2) - zslt (wn w), locals := 32 * (d + 1) }).room.cells ∧ (fun n => zslt n - zslt (wn w)) n ≤ (headSpec (zcw M :: zWS) { frames := d + 1, cells := wn b.2.2.2 - wn w, slots := zslt (wn b.2.2.2) - zslt (wn w), locals := 32 * (d + 1) }).room.slots := by
      intro q h1 h2
      have q2 := zslt_mono h2
      show q - wn w ≤ wn b.2.2.2 - wn w ∧ zslt q - zslt (wn w) ≤ zslt (wn b.2.2.2) - zslt (wn w)
      omega
    have kend := zend (l := l) (e := e) (below := below) (r := r) hM hC (by rw [hnum]; exact BL.returns) (by rw [hnum]; exact hrk) BL.notSynchronized (cf := fun n => n - wn w) (sf := fun n => zslt n - zslt (wn w)) ho hf m1 hex
    have kst := zpath hM hL hC hE (by show d + 1 ≤ d + 1; omega) (by show 32 * (d + 1) ≤ 32 * (d + 1); omega) hcf hex hcap k hpth (Nat.le_refl _) (Nat.le_refl _) kend
    have kk := kst s.heap [] ls ⟨hP, va_S.rf, hScr, hl⟩
    simp only [Nat.sub_self] at kk
    exact kk
end ZV
