/-! calls, ends, whole methods -/
section ZU
variable {dC : Nat → ClassId} {dI : Nat → Nat → Nat} {dA : Nat → ClassId} {B L : Nat} {xs : Nat → Int32} {sa : Nat → Nat}
variable {p : Program} {l : Launch} {e : Env} {R : Room} {s : State} {m : MethodId} {args : Array Value} {below : List Frame} {meth : Method} {c : Code} {Q : State → Prop}
theorem zmono_p {M : Mth} {op : Op4} {npc : Nat} {lv : List (Nat × Value)} {st : List Value} {w : Wd} {b : Cfg} (h : zst' M op npc lv st w = some b) : wn w ≤ wn b.2.2.2 ∧ wx b.2.2.2 = wx w := by
  unfold zst' at h
  split at h
  · unfold zs2 at h
    repeat' split at h
    all_goals first | cases h | skip
    all_goals exact ⟨Nat.le_refl _, rfl⟩
  · unfold zs3 at h
    repeat' split at h
    all_goals first | cases h | skip
    all_goals first | exact ⟨Nat.le_refl _, rfl⟩ | exact ⟨Nat.le_succ _, rfl⟩
  · unfold zs1 at h
    repeat' split at h
    all_goals first | (cases h; done) | (cases h; exact ⟨Nat.le_refl _, rfl⟩) | (rw [Option.map_eq_some_iff] at h; obtain ⟨z, -, h⟩ := h; cases h; exact ⟨Nat.le_refl _, rfl⟩)
theorem zslt_mono {a b : Nat} (h : a ≤ b) : zslt a ≤ zslt b := by
  induction b with
  | zero => rw [Nat.le_zero.mp h]; exact Nat.le_refl _
  | succ b ih =>
    rcases Nat.lt_or_ge a (b + 1) with q | q
    · exact Nat.le_trans (ih (by omega)) (Nat.le_add_right _ _)
    · rw [show a = b + 1 by omega]; exact Nat.le_refl _
theorem zStat.go {H : Heap} {locs : List Loc} {U : State} (h : zStat B L xs sa s s.heap) (hS : va_S (zA B) s.heap H locs) (hvm : s.vm.Alike U.vm) : zStat B L xs sa U H := by
  obtain ⟨h1, h2, h3, h4, h5, h6, h7, h8⟩ := h
  exact ⟨(h1.moved hvm).kept hS.2.1, (h2.moved hvm).kept hS.2.1, fun i hi => ((h3 i hi).moved hvm).kept hS.2.1, (h4.moved hvm).kept hS.2.1, (h5.moved hvm).kept hS.2.1, (h6.moved hvm).kept hS.2.1, (h7.moved hvm).kept hS.2.1, h8⟩
theorem zNest_form : (∀ w ∈ zNest, ∃ a i x h, w = Jvm.Cond.methodLinkNest a i x h) ∧ ∀ w ∈ zNestF, ∃ a i b n d h, w = Jvm.Cond.fieldLinkNest a i b n d h := by
  constructor
  · intro w hw
    unfold zNest at hw
    simp only [List.mem_cons, List.not_mem_nil, or_false] at hw
    rcases hw with h | h | h | h | h | h | h | h <;> exact ⟨_, _, _, _, h⟩
  · intro w hw
    unfold zNestF at hw
    simp only [List.mem_cons, List.not_mem_nil, or_false] at hw
    exact ⟨_, _, _, _, _, _, hw⟩
theorem zNs.warm {U : State} (h : zNs s) (hW : s.WarmedH U.vm) : zNs U := by
  obtain ⟨h1, h2, h3, h4, h5⟩ := h
  refine ⟨fun w hw => ?_, fun w hw => ?_, h3.moved hW.alike, h4.moved hW.alike, h5.moved hW.alike⟩
  · obtain ⟨a, i, x, q, e⟩ := zNest_form.1 w hw
    have := h1 w hw
    rw [e] at this ⊢
    exact this.warmM hW
  · obtain ⟨a, i, b, n, d, q, e⟩ := zNest_form.2 w hw
    have := h2 w hw
    rw [e] at this ⊢
    exact this.warmF hW
theorem zNs.same {u U : State} (h : zNs u) (e : u.vm = U.vm) (ha : u.vm.Alike U.vm) : zNs U := by
  obtain ⟨h1, h2, h3, h4, h5⟩ := h
  refine ⟨fun w hw => ?_, fun w hw => ?_, h3.moved ha, h4.moved ha, h5.moved ha⟩
  · obtain ⟨a, i, x, q, e'⟩ := zNest_form.1 w hw
    have := h1 w hw
    rw [e'] at this ⊢
    exact va_Nw.same rfl e this
  · obtain ⟨a, i, b, n, d, q, e'⟩ := zNest_form.2 w hw
    have := h2 w hw
    rw [e'] at this ⊢
    exact va_Nw.same rfl e this
theorem zG.blind {w : Wd} {U : State} {g : JFrame} {mk : MethodId} {a : Array Value} (h : zG dC dI dA B L xs sa w U) : zG dC dI dA B L xs sa w (U.calling g mk a) := by
  obtain ⟨h1, h2, h3, h4, h5, h6, h7⟩ := h
  refine ⟨h1, va_K.moved (u := U) (U := U.calling g mk a) (Vm.Alike.refl U.vm) h2, ?_, zNs.same (u := U) (U := U.calling g mk a) h4 rfl (Vm.Alike.refl U.vm), h5, h6, h7⟩
  obtain ⟨g1, g2, g3, g4, g5, g6, g7, g8⟩ := h3
  have ha : U.vm.Alike (U.calling g mk a).vm := Vm.Alike.refl U.vm
  exact ⟨g1.moved ha, g2.moved ha, fun i hi => (g3 i hi).moved ha, g4.moved ha, g5.moved ha, g6.moved ha, g7.moved ha, g8⟩
/-- what is known of the methods called -/
def zMet (dC : Nat → ClassId) (dI : Nat → Nat → Nat) (dA : Nat → ClassId) (B L : Nat) (xs : Nat → Int32) (sa : Nat → Nat) (l : Launch) (d : Nat) (E : Evf) : Prop := ∀ (n : Nat) (as : List Value) (w : Wd) (r : Option Value) (w1 : Wd), E n as w r w1 → wn w ≤ wn w1 ∧ wx w1 = wx w ∧
  ∃ M ∈ zMs, mNum M = n ∧ ¬ n = 0 ∧ as.length = mArg M ∧ (zsta.contains n = true ∨ ∃ (o : Nat) (as' : List Value), as = .ref o :: as' ∧ zobj w o (mCls M) = true) ∧
    Met l (zy n) (zcw M :: zWS) { frames := d, cells := wn w1 - wn w, slots := zslt (wn w1) - zslt (wn w), locals := 32 * d } (va_Pc (as.map (ztr B sa)) (fun U => zG dC dI dA B L xs sa w U))
      (fun _ st o t => o = .returned (r.map (ztr B sa)) ∧ zG dC dI dA B L xs sa w1 t ∧ va_F (zA B) st t) (wn w1 - wn w) (zslt (wn w1) - zslt (wn w)) (zA B)
theorem zMs_ne {M : Mth} (h : M ∈ zMs) (hn : ¬ mNum M = 0) : M ∈ zMs.drop 1 := by
  have e : zMs = M0 :: zMs.drop 1 := rfl
  rw [e] at h
  rcases List.mem_cons.mp h with q | q
  · subst q; exact absurd rfl hn
  · exact q
/-- behind a call -/
theorem zafter {w w1 : Wd} {r : Option Value} {cells slots mc ms pc npc : Nat} {H : Heap} {locs : List Loc} {ls : Array Slot} {rest st0 : List Value} {M : Mth} {lv : List (Nat × Value)} {aa : Array Value} (hpc : pc + 3 = npc)
    (hr : va_Run p l e R s m args below meth c H locs cells slots mc ms (F0 m pc ls st0) (rest.map (ztr B sa)) ((fun (_ : Array Value) st o t => o = .returned (r.map (ztr B sa)) ∧ zG dC dI dA B L xs sa w1 t ∧ va_F (zA B) st t) aa) (zA B))
    (hSS : va_S (zA B) s.heap H locs) (hl : lv_has ls (mLoc M) (zlv B sa lv))
    (k : ∀ (H1 : Heap) (locs1 : List Loc) (ls1 : Array Slot), zAt dC dI dA B L xs sa M s w1 lv H1 locs1 ls1 → W p l e R s m args below meth c H1 locs1 (cells + mc) (slots + ms) Q (F0 m npc ls1 ((r.toList ++ rest).map (ztr B sa)))) :
    W p l e R s m args below meth c H locs cells slots Q (F0 m pc ls st0) := by
  intro T hT X
  obtain ⟨v, st₀, t, T', Ls, h0, X', hL, e1, e2, ⟨hv, hG, hF⟩, st⟩ := hr T hT X
  have hv : v = r.map (ztr B sa) := by injection hv
  obtain ⟨z1, z2⟩ := hF
  rw [h0] at z1 z2
  have hS1 : va_S (zA B) s.heap T'.heap (locs ++ Ls) := by
    refine ⟨Nat.le_trans hSS.1 (by rw [e1]; exact z1), fun q g1 g2 => ?_, fun q hq => ?_⟩
    · rw [e1, z2 q (Nat.lt_of_lt_of_le g1 hSS.1) g2]; exact hSS.2.1 q g1 g2
    · rcases List.mem_append.mp hq with h | h
      · exact hSS.2.2 q h
      · exact hL q h
  have hHp : zHp dC dI dA B sa w1 T'.heap := by rw [e1]; exact hG.1
  obtain ⟨t2, a1, b1⟩ := k T'.heap (locs ++ Ls) ls ⟨hHp, hS1, hG.2.2.2.2.1, hl⟩ T' rfl X'
  refine ⟨t2, st t2 ?_, b1⟩
  rw [hv]
  have ef : (F0 m npc ls ((r.toList ++ rest).map (ztr B sa))) = { (F0 m pc ls st0) with pc := (F0 m pc ls st0).pc + 3, stack := (r.map (ztr B sa)).toList ++ rest.map (ztr B sa) } := by
    subst hpc
    cases r <;> rfl
  rw [← ef]
  exact a1

theorem mOp_39 {sk c j n b : Nat} {v : Int32} (h : mOp sk c j = some (39, n, b, v)) : ∃ r0, lkM c j = some r0 ∧ r0.2.2.1 = n ∧ (sk = 1 ∧ zsta.contains n = true ∨ sk = 2 ∧ zini.contains n = true ∨ sk = 0 ∧ zsta.contains n = false ∧ zini.contains n = false) := by
  unfold mOp at h
  cases hr : lkM c j with
  | none => rw [hr] at h; cases h
  | some r0 =>
    rw [hr] at h
    simp only [Option.bind_some] at h
    split at h
    · split at h <;> cases h
    · split at h
      · split at h <;> cases h
      · split at h
        · rename_i hk
          cases h
          exact ⟨r0, rfl, rfl, hk⟩
        · cases h
theorem zini_sta (n : Nat) (h : zini.contains n = true) : zsta.contains n = false := by
  have q := (by decide +kernel : ∀ n ∈ zini, zsta.contains n = false)
  exact q n (by simpa using h)
theorem zMs_small : ∀ M ∈ zMs, mNum M < 300 := by
  have h : zMs.map mNum = List.range 286 := by decide +kernel
  intro M hM
  have q : mNum M ∈ zMs.map mNum := List.mem_map.mpr ⟨M, hM, rfl⟩
  rw [h, List.mem_range] at q
  omega
set_option maxHeartbeats 2000000 in
theorem zcall {M : Mth} {d : Nat} {E : Evf} (hM : zchk M = true) (C : zCtx dC dI dA B L xs sa M p s m args meth c R) (hE : zMet dC dI dA B L xs sa l d E) (hfr2 : d + 1 ≤ R.frames) (hlo2 : 32 * (d + 1) ≤ R.locals) {cf sf : Nat → Nat} {pc npc n0 : Nat} {lv : List (Nat × Value)} {st : List Value} {w : Wd} {op : Op4}
    (ho : opAt (mCode M) pc = some (op, npc)) (h39 : op.1 = 39) {as rest : List Value} {r : Option Value} {w1 : Wd} (hst : st = as.reverse ++ rest) (hEv : E op.2.1 as w r w1) (hsum : (rest.map fun v => v.category).sum ≤ 8)
    (hn0 : n0 ≤ wn w) (hcf : ∀ a b, n0 ≤ a → a ≤ b → cf b = cf a + (b - a) ∧ sf b = sf a + (zslt b - zslt a)) (hex : ∀ n, n0 ≤ n → n < zK → s.heap.size + cf n ≤ B + n) (hcap : cf (wn w1) ≤ R.cells ∧ sf (wn w1) ≤ R.slots)
    (k : zWk dC dI dA B L xs sa M p l e R s m args below meth c cf sf Q (npc, lv, r.toList ++ rest, w1)) : zWk dC dI dA B L xs sa M p l e R s m args below meth c cf sf Q (pc, lv, st, w) := by
  obtain ⟨i, len, hd, hln, hn, hI⟩ := zdec_op hM ho
  obtain ⟨hx, hb, hml, hown, hts, hini, hK, hS, hN, hB, hfr, hlo, hc15⟩ := C
  obtain ⟨hwn, hwx, M', hM', hnum, hnz, hlen, hrecv, hMet⟩ := hE _ _ _ _ _ hEv
  intro H locs ls hA
  obtain ⟨hP, hSS, hScr, hl⟩ := hA
  dsimp only at hP hSS hScr hl ⊢
  subst hst
  have hmok := zmok_all M' (zMs_ne hM' (by rw [hnum]; exact hnz))
  have hcd := zcds_all M' (zMs_ne hM' (by rw [hnum]; exact hnz))
  unfold zmok at hmok
  simp only [Bool.and_eq_true, Bool.or_eq_true, decide_eq_true_eq, hnum, Bool.not_eq_true'] at hmok
  obtain ⟨⟨⟨⟨⟨⟨⟨⟨⟨⟨⟨⟨⟨hkw, hkwg⟩, hsel⟩, hcls⟩, hcl15⟩, hplain⟩, hmh⟩, hvh⟩, hpar⟩, harg1⟩, hloc12⟩, hrk⟩, hinit⟩, hclst⟩ := hmok
  have hkwm : (zkw M').before args s = true := zwd_b hts hkw hkwg
  have hinw : (Jvm.Cond.initialized (zy op.2.1).cls).before args s = true := by rw [hcls]; exact zwd_b hts (zinit _ hcl15).1 (zinit _ hcl15).2
  have hGI : GoodIn zWS (zcw M' :: zWS) := by
    intro x hx
    rcases List.mem_cons.mp hx with q | q
    · subst q
      have hg : goodWord (zcw M') = true := rfl
      exact ⟨List.mem_filter.mpr ⟨hcd, hg⟩, good_of_word hg⟩
    · exact ⟨q, good_of_word (List.mem_filter.mp q).2⟩
  have hwsM : zcw M' :: zWS = Jvm.Cond.code (zy op.2.1) (zby op.2.1) (mLoc M') (zrt op.2.1) :: zWS := by unfold zcw; rw [hnum]
  have hroom : d + 1 ≤ R.frames ∧ 8 + (mLoc M' + 11) + 32 * d ≤ R.locals := ⟨hfr2, by omega⟩
  obtain ⟨f1, f2⟩ := hcf (wn w) (wn w1) hn0 hwn
  have hcap' : cf (wn w) + (wn w1 - wn w) ≤ R.cells ∧ sf (wn w) + (zslt (wn w1) - zslt (wn w)) ≤ R.slots := by rw [← f1, ← f2]; exact hcap
  have k2 : ∀ (H1 : Heap) (locs1 : List Loc) (ls1 : Array Slot), zAt dC dI dA B L xs sa M s w1 lv H1 locs1 ls1 → W p l e R s m args below meth c H1 locs1 (cf (wn w) + (wn w1 - wn w)) (sf (wn w) + (zslt (wn w1) - zslt (wn w))) Q (F0 m npc ls1 ((r.toList ++ rest).map (ztr B sa))) := by
    intro H1 locs1 ls1 h
    rw [← f1, ← f2]
    exact k H1 locs1 ls1 h
  have hlow := zhp_low hP hSS hB
  have hbl : FrameBlind (va_Pc (as.map (ztr B sa)) (fun U => zG dC dI dA B L xs sa w U)) := fun a U g mk q => ⟨q.1, q.2.blind⟩
  have hrest : 2 * (F0 m pc ls ((as.reverse ++ rest).map (ztr B sa))).monitorRoom + ((rest.map (ztr B sa)).map fun v => v.category).sum ≤ 8 := by
    rw [ztr_sum]
    show 2 * 0 + _ ≤ 8
    omega
  have hmapst : (as.reverse ++ rest).map (ztr B sa) = (as.map (ztr B sa)).reverse ++ rest.map (ztr B sa) := by rw [List.map_append, List.map_reverse]
  have key : (wn w < zK → H.size ≤ B + wn w) → W p l e R s m args below meth c H locs (cf (wn w)) (sf (wn w)) Q (F0 m pc ls ((as.reverse ++ rest).map (ztr B sa))) := by
    intro hup
    have hpre : ∀ U : State, U.heap = H → s.WarmedH U.vm → va_Pc (as.map (ztr B sa)) (fun U => zG dC dI dA B L xs sa w U) (as.map (ztr B sa)).toArray U := by
      intro U hU hW
      refine ⟨rfl, by rw [hU]; exact hP, va_K.moved hW.alike hK, by rw [hU]; exact hS.go hSS hW.alike, hN.warm hW, hScr, by rw [hU]; exact hlow, fun h => by rw [hU]; exact hup h⟩
    obtain ⟨t39, opn, ob, ov⟩ := op
    dsimp only at h39 hEv hnum hnz hrecv hMet hkwm hinw hwsM hpar hsel hcls hrk hinit hclst hmh hvh hplain harg1
    subst h39
    have hkind : ∃ (sk j : Nat) (r0 : Nat × Nat × Nat × Nat × Bool), lkM (mCls M) j = some r0 ∧ r0.2.2.1 = opn ∧ (sk = 0 ∧ decode (zby (mNum M)) pc = .ok (.invokevirtual j, 3) ∧ zsta.contains opn = false ∧ zini.contains opn = false ∨ sk = 1 ∧ decode (zby (mNum M)) pc = .ok (.invokestatic j, 3) ∧ zsta.contains opn = true ∨ sk = 2 ∧ decode (zby (mNum M)) pc = .ok (.invokespecial j, 3) ∧ zini.contains opn = true) ∧ pc + 3 = npc := by
      cases i
      case invokevirtual j =>
        have hln := Nat.eq_of_beq_eq_true hln; subst hln
        obtain ⟨r0, g1, g2, g3⟩ := mOp_39 hI
        refine ⟨0, j, r0, g1, g2, Or.inl ⟨rfl, hd, ?_⟩, hn⟩
        rcases g3 with g | g | g
        · exact absurd g.1 (by decide)
        · exact absurd g.1 (by decide)
        · exact g.2
      case invokestatic j =>
        have hln := Nat.eq_of_beq_eq_true hln; subst hln
        obtain ⟨r0, g1, g2, g3⟩ := mOp_39 hI
        refine ⟨1, j, r0, g1, g2, Or.inr (Or.inl ⟨rfl, hd, ?_⟩), hn⟩
        rcases g3 with g | g | g
        · exact g.2
        · exact absurd g.1 (by decide)
        · exact absurd g.1 (by decide)
      case invokespecial j =>
        have hln := Nat.eq_of_beq_eq_true hln; subst hln
        obtain ⟨r0, g1, g2, g3⟩ := mOp_39 hI
        refine ⟨2, j, r0, g1, g2, Or.inr (Or.inr ⟨rfl, hd, ?_⟩), hn⟩
        rcases g3 with g | g | g
        · exact absurd g.1 (by decide)
        · exact g.2
        · exact absurd g.1 (by decide)
      case getfield j =>
        simp only [trI] at hI
        cases hr : lkF (mCls M) j with
        | none => rw [hr] at hI; cases hI
        | some r =>
          rw [hr] at hI
          simp only [Option.bind_some, gOp] at hI
          repeat' split at hI
          all_goals first | cases hI | skip
      case putfield j =>
        simp only [trI] at hI
        cases hr : lkF (mCls M) j with
        | none => rw [hr] at hI; cases hI
        | some r =>
          rw [hr] at hI
          simp only [Option.bind_some, pOp] at hI
          repeat' split at hI
          all_goals first | cases hI | skip
      case tableswitch d lo hi offs =>
        simp only [trI] at hI
        cases hr : lkW (mCls M) pc with
        | none => rw [hr] at hI; cases hI
        | some r =>
          rw [hr] at hI
          simp only [Option.bind_some] at hI
          split at hI <;> cases hI
      case newarray t => cases t <;> simp only [trI] at hI <;> cases hI
      case ifCond kd off => simp only [trI] at hI; obtain ⟨hI, -⟩ := ztgt hI; cases hI
      case if_icmp kd off => simp only [trI] at hI; obtain ⟨hI, -⟩ := ztgt hI; cases hI
      case if_acmp kd off => simp only [trI] at hI; obtain ⟨hI, -⟩ := ztgt hI; cases hI
      case ifnull off => simp only [trI] at hI; obtain ⟨hI, -⟩ := ztgt hI; cases hI
      case ifnonnull off => simp only [trI] at hI; obtain ⟨hI, -⟩ := ztgt hI; cases hI
      case goto off => simp only [trI] at hI; obtain ⟨hI, -⟩ := ztgt hI; cases hI
      all_goals first | (simp only [trI] at hI; cases hI; done) | (simp only [trI] at hI; rw [Option.map_eq_some_iff] at hI; obtain ⟨_, -, hI⟩ := hI; cases hI; done)
    obtain ⟨sk, j, r0, hlk, hr0, hkind, hnpc⟩ := hkind
    obtain ⟨l1, l2, l3⟩ := lkM_ok hlk
    obtain ⟨l4, l5, l6⟩ := zml_ok _ hc15 r0 l1
    have hne : ¬ opn = 1000 ∧ ¬ opn = 1001 := by
      have := zMs_small M' hM'
      omega
    have hzyy : zyy r0.2.2.1 = zy opn := by unfold zyy; rw [hr0, if_neg hne.1, if_neg hne.2]
    have hzm : zmw r0 = if r0.2.2.2.2 = true then .methodLinkNest (zC (mCls M)) j (zy opn) "RugReader" else .methodLink (zC (mCls M)) j (zy opn) := by unfold zmw; rw [hzyy, l2, l3]
    have hlinkN : r0.2.2.2.2 = true → va_Nw (.methodLinkNest (zC (mCls M)) j (zy opn) "RugReader") s := by
      intro h
      have q := hN.1 _ (zml_n _ hc15 r0 l1 h)
      rw [hzm, if_pos h] at q
      exact q
    have hlink1 : r0.2.2.2.2 = false → (Jvm.Cond.methodLink (zC (mCls M)) j (zy opn)).before args s = true := by
      intro h
      have q := zwd_b hts l4 (l5 h)
      rw [hzm, if_neg (by rw [h]; decide)] at q
      exact q
    rcases hkind with ⟨-, hdv, hz1, hz2⟩ | ⟨-, hds, hz1⟩ | ⟨-, hdi, hz2⟩
    · -- a method of an object
      rcases hrecv with h | ⟨o, as', ha, hob⟩
      · rw [hz1] at h; cases h
      · subst ha
        obtain ⟨ho1, ho2⟩ := zobj_iff hob
        have h192 : o < 192 := Nat.lt_of_lt_of_le ho1 hP.2
        have hc11 : mCls M' < 11 := by
          rcases hclst with h | h
          · exact h
          · rw [hz1] at h; cases h
        rw [if_neg (by rw [hz1]; decide)] at hpar
        have hkw' : (Jvm.Cond.instanceMethod (zy opn)).before args s = true := by
          unfold zkw at hkwm
          rw [hnum, if_neg (by rw [hz1]; decide)] at hkwm
          exact hkwm
        have hsl' : (Jvm.Cond.selects (zC (mCls M')) (zy opn) (zy opn)).before args s = true := by
          rcases hsel with (h | h) | h
          · rw [hz1] at h; cases h
          · rw [hz2] at h; cases h
          · have q := zwd_b hts h.1 h.2
            unfold zsl at q
            rw [hnum] at q
            exact q
        have hrv := va_recv (q0 := o) hK hP.1 (zcl_get hc11) (by rw [zws_get ho1, zcell_obj h192 ho2 hc11])
        have hz0 : ztr B sa (.ref o) = .ref (B + o) := by show Value.ref (zad B sa o) = _; rw [zad_own h192]
        have hstk : (F0 m pc ls (((Value.ref o :: as').reverse ++ rest).map (ztr B sa))).stack = (as'.map (ztr B sa)).reverse ++ .ref (B + o) :: rest.map (ztr B sa) := by
          show ((Value.ref o :: as').reverse ++ rest).map (ztr B sa) = _
          rw [hmapst, List.map_cons, hz0, List.reverse_cons, List.append_assoc]; rfl
        have hlen' : (as'.map (ztr B sa)).length = mArg M' - 1 := by rw [List.length_map]; simp only [List.length_cons] at hlen; omega
        have hpre' : ∀ U : State, U.heap = H → s.WarmedH U.vm → va_Pc ((Value.ref o :: as').map (ztr B sa)) (fun U => zG dC dI dA B L xs sa w U) (Value.ref (B + o) :: as'.map (ztr B sa)).toArray U := by
          intro U h1 h2
          have q := hpre U h1 h2
          rw [List.map_cons, hz0] at q ⊢
          exact q
        cases hne2 : r0.2.2.2.2 with
        | false => exact zafter (w := w) (aa := #[]) (M := M) (lv := lv) hnpc (va_runV (b := B + o) (As := as'.map (ztr B sa)) (rest := rest.map (ztr B sa)) ⟨hx, hb, hml, hown, hts⟩ hMet ⟨callB_of (mArg M' - 1) hts hGI hwsM rfl rfl hinw (hlink1 hne2) ⟨hmh, hvh, hpar⟩ hroom, hkw', hsl'⟩ ⟨hbl, hrv, hpre'⟩ rfl hlen' hl.1 hstk hrest hdv hcap') hSS hl k2
        | true => exact zafter (w := w) (aa := #[]) (M := M) (lv := lv) hnpc (va_runVN (b := B + o) (As := as'.map (ztr B sa)) (rest := rest.map (ztr B sa)) ⟨hx, hb, hml, hown, hts⟩ hMet ⟨va_cnB (mArg M' - 1) hts hGI hwsM rfl rfl (hlinkN hne2) hinw ⟨hmh, hvh, hpar⟩ hroom, hkw', hsl'⟩ ⟨hbl, hrv, hpre'⟩ rfl hlen' hl.1 hstk hrest hdv hcap') hSS hl k2
    · -- a static one
      rw [if_pos hz1] at hpar
      have hkw' : (Jvm.Cond.static (zy opn)).before args s = true := by
        unfold zkw at hkwm
        rw [hnum, if_pos hz1] at hkwm
        exact hkwm
      have hlen' : (as.map (ztr B sa)).length = mArg M' := by rw [List.length_map]; exact hlen
      cases hne2 : r0.2.2.2.2 with
      | false => exact zafter (w := w) (aa := #[]) (M := M) (lv := lv) hnpc (va_runS (As := as.map (ztr B sa)) (rest := rest.map (ztr B sa)) ⟨hx, hb, hml, hown, hts⟩ hMet ⟨callB_of (mArg M') hts hGI hwsM rfl rfl hinw (hlink1 hne2) ⟨hmh, hvh, hpar⟩ hroom, hkw'⟩ ⟨hbl, hpre⟩ rfl hlen' hl.1 hmapst hrest hds hcap') hSS hl k2
      | true => exact zafter (w := w) (aa := #[]) (M := M) (lv := lv) hnpc (va_runSN (As := as.map (ztr B sa)) (rest := rest.map (ztr B sa)) ⟨hx, hb, hml, hown, hts⟩ hMet ⟨va_cnB (mArg M') hts hGI hwsM rfl rfl (hlinkN hne2) hinw ⟨hmh, hvh, hpar⟩ hroom, hkw', trivial⟩ ⟨hbl, hpre⟩ rfl hlen' hl.1 hmapst hrest hds hcap') hSS hl k2
    · -- a constructor
      have hz1 := zini_sta opn hz2
      rcases hrecv with h | ⟨o, as', ha, hob⟩
      · rw [hz1] at h; cases h
      · subst ha
        obtain ⟨ho1, ho2⟩ := zobj_iff hob
        have h192 : o < 192 := Nat.lt_of_lt_of_le ho1 hP.2
        rw [if_neg (by rw [hz1]; decide)] at hpar
        have hkw' : (Jvm.Cond.instanceMethod (zy opn)).before args s = true := by
          unfold zkw at hkwm
          rw [hnum, if_neg (by rw [hz1]; decide)] at hkwm
          exact hkwm
        have hi : (zy opn).name = "<init>" ∧ zrt opn = none := by
          rcases hinit with h | h
          · rw [hz2] at h; cases h
          · refine ⟨h.1, ?_⟩
            rw [h.2] at hrk
            simpa [zrk] using hrk
        rw [hi.2] at hwsM
        have hz0 : ztr B sa (.ref o) = .ref (B + o) := by show Value.ref (zad B sa o) = _; rw [zad_own h192]
        have hstk : (F0 m pc ls (((Value.ref o :: as').reverse ++ rest).map (ztr B sa))).stack = (as'.map (ztr B sa)).reverse ++ .ref (B + o) :: rest.map (ztr B sa) := by
          show ((Value.ref o :: as').reverse ++ rest).map (ztr B sa) = _
          rw [hmapst, List.map_cons, hz0, List.reverse_cons, List.append_assoc]; rfl
        have hlen' : (as'.map (ztr B sa)).length = mArg M' - 1 := by rw [List.length_map]; simp only [List.length_cons] at hlen; omega
        have hpre' : ∀ U : State, U.heap = H → s.WarmedH U.vm → va_Pc ((Value.ref o :: as').map (ztr B sa)) (fun U => zG dC dI dA B L xs sa w U) (Value.ref (B + o) :: as'.map (ztr B sa)).toArray U := by
          intro U h1 h2
          have q := hpre U h1 h2
          rw [List.map_cons, hz0] at q ⊢
          exact q
        cases hne2 : r0.2.2.2.2 with
        | false => exact zafter (w := w) (aa := #[]) (M := M) (lv := lv) hnpc (va_runI (b := B + o) (As := as'.map (ztr B sa)) (rest := rest.map (ztr B sa)) ⟨hx, hb, hml, hown, hts⟩ hMet ⟨callB_of (mArg M' - 1) hts hGI hwsM rfl rfl hinw (hlink1 hne2) ⟨hmh, hvh, hpar⟩ hroom, hi.1, hkw'⟩ ⟨hbl, hpre'⟩ rfl hlen' hl.1 hstk hrest hdi hcap') hSS hl k2
        | true => exact zafter (w := w) (aa := #[]) (M := M) (lv := lv) hnpc (va_runIN (b := B + o) (As := as'.map (ztr B sa)) (rest := rest.map (ztr B sa)) ⟨hx, hb, hml, hown, hts⟩ hMet ⟨va_cnB (mArg M' - 1) hts hGI hwsM rfl rfl (hlinkN hne2) hinw ⟨hmh, hvh, hpar⟩ hroom, hi.1, hkw'⟩ ⟨hbl, hpre'⟩ rfl hlen' hl.1 hstk hrest hdi hcap') hSS hl k2
  intro T hT X
  refine key (fun h => ?_) T hT X
  have q := X.heapSize
  rw [hT] at q
  have := hex (wn w) hn0 h
  omega
end ZU
