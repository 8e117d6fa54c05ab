/-! what is thrown: the method that throws -/
def tx1 : String := "no such person, or nothing such of a person"
def tx2 : String := "no such tuft, or nothing such of a tuft"
def zXZ (B a1 a2 : Nat) (U : State) (H : Heap) : Prop :=
  vx_Zq Bundle.tN "UNASSIGNED_STACK" Bundle.steD (zA B) U H ∧ vx_Zq Bundle.tN "SUPPRESSED_SENTINEL" Bundle.listD (zA B) U H ∧ vk_R "RugReader" 136 tx1 a1 U ∧ vk_R "RugReader" 152 tx2 a2 U ∧ ∀ w ∈ thB, va_Nw w U
theorem thB_form : ∀ w ∈ thB, (∃ x, w = .declares x) ∨ ∃ a b, w = .castable a b := by
  intro w hw
  unfold thB at hw
  simp only [List.mem_cons, List.not_mem_nil, or_false] at hw
  rcases hw with h | h | h | h
  · exact Or.inl ⟨_, h⟩
  · exact Or.inl ⟨_, h⟩
  · exact Or.inl ⟨_, h⟩
  · exact Or.inr ⟨_, _, h⟩
section TH
variable {dC : Nat → ClassId} {dI : Nat → Nat → Nat} {dA : Nat → ClassId} {B L : Nat} {xs : Nat → Int32} {sa : Nat → Nat} {a1 a2 : Nat}
variable {p : Program} {l : Launch} {e : Env} {R : Room} {s : State} {m : MethodId} {args : Array Value} {below : List Frame} {meth : Method} {c : Code} {Q : State → Prop}
theorem zXZ.go {U : State} {H : Heap} {locs : List Loc} (h : zXZ B a1 a2 s s.heap) (hS : va_S (zA B) s.heap H locs) (hW : s.WarmedH U.vm) : zXZ B a1 a2 U H := by
  obtain ⟨h1, h2, h3, h4, h5⟩ := h
  refine ⟨vx_Zq.moved hW.alike (h1.kept hS.2.1), vx_Zq.moved hW.alike (h2.kept hS.2.1), vk_R.warm hW h3, vk_R.warm hW h4, fun w hw => ?_⟩
  have := h5 w hw
  rcases thB_form w hw with ⟨x, rfl⟩ | ⟨a, b, rfl⟩
  · exact va_Nw.warmD hW this
  · exact va_Nw.warmC hW this
theorem zXZ.blind {U : State} {g : JFrame} {mk : MethodId} {a : Array Value} (h : zXZ B a1 a2 U U.heap) : zXZ B a1 a2 (U.calling g mk a) (U.calling g mk a).heap := by
  obtain ⟨h1, h2, h3, h4, h5⟩ := h
  have ha : U.vm.Alike (U.calling g mk a).vm := Vm.Alike.refl U.vm
  refine ⟨vx_Zq.moved ha h1, vx_Zq.moved ha h2, vk_R.same rfl h3, vk_R.same rfl h4, fun w hw => ?_⟩
  have := h5 w hw
  rcases thB_form w hw with ⟨x, rfl⟩ | ⟨a, b, rfl⟩
  · exact va_Nw.same rfl rfl this
  · exact va_Nw.same rfl rfl this
/-- the class's call, and what the throwing needs -/
def zGX (dC : Nat → ClassId) (dI : Nat → Nat → Nat) (dA : Nat → ClassId) (B L : Nat) (xs : Nat → Int32) (sa : Nat → Nat) (a1 a2 : Nat) (w : Wd) (U : State) : Prop := zG dC dI dA B L xs sa w U ∧ zXZ B a1 a2 U U.heap
theorem zGX.bl {w : Wd} {av : List Value} : FrameBlind (va_Pc av (fun U => zGX dC dI dA B L xs sa a1 a2 w U)) := fun a U g mk q => ⟨q.1, q.2.1.blind, q.2.2.blind⟩
/-- a method's words for a call out of the law's class -/
theorem cw_law {M' : Mth} {n idx : Nat} {rm : Room} (hM' : M' ∈ zMs) (hnum : mNum M' = n) (hnz : ¬ n = 0) (hst : zsta.contains n = false) (hin : zini.contains n = false) (hc11 : mCls M' < 11) (hts : ∀ w ∈ zWS, w.before args s = true)
    (hlink : (Cond.methodLink "RugReaderLaw" idx (zy n)).before args s = true) (hR : rm.frames + 1 ≤ R.frames ∧ 8 + (mLoc M' + 11) + rm.locals ≤ R.locals) :
    CallW R s args "RugReaderLaw" (zC (mCls M')) idx (zy n) (zby n) (mLoc M') (zrt n) (zcw M' :: zWS) rm rm.cells rm.slots (mArg M' - 1) := by
  have hmok := zmok_all M' (zMs_ne hM' (by rw [hnum]; exact hnz))
  have hcd := zcds_all M' (zMs_ne hM' (by rw [hnum]; exact hnz))
  unfold zmok at hmok
  simp only [Bool.and_eq_true, Bool.or_eq_true, decide_eq_true_eq, hnum, Bool.not_eq_true'] at hmok
  obtain ⟨⟨⟨⟨⟨⟨⟨⟨⟨⟨⟨⟨⟨hkw, hkwg⟩, hsel⟩, hcls⟩, hcl15⟩, hplain⟩, hmh⟩, hvh⟩, hpar⟩, harg1⟩, hloc12⟩, hrk⟩, hinit⟩, hclst⟩ := hmok
  have hkwm : (zkw M').before args s = true := zwd_b hts hkw hkwg
  have hinw : (Jvm.Cond.initialized (zy n).cls).before args s = true := by rw [hcls]; exact zwd_b hts (zinit _ hcl15).1 (zinit _ hcl15).2
  have hGI : GoodIn zWS (zcw M' :: zWS) := by
    intro x hx
    rcases List.mem_cons.mp hx with q | q
    · subst q
      have hg : goodWord (zcw M') = true := rfl
      exact ⟨List.mem_filter.mpr ⟨hcd, hg⟩, good_of_word hg⟩
    · exact ⟨q, good_of_word (List.mem_filter.mp q).2⟩
  have hwsM : zcw M' :: zWS = Jvm.Cond.code (zy n) (zby n) (mLoc M') (zrt n) :: zWS := by unfold zcw; rw [hnum]
  rw [if_neg (by rw [hst]; decide)] at hpar
  have hkw' : (Jvm.Cond.instanceMethod (zy n)).before args s = true := by
    unfold zkw at hkwm
    rw [hnum, if_neg (by rw [hst]; decide)] at hkwm
    exact hkwm
  have hsl' : (Jvm.Cond.selects (zC (mCls M')) (zy n) (zy n)).before args s = true := by
    rcases hsel with (h | h) | h
    · rw [hst] at h; cases h
    · rw [hin] at h; cases h
    · have q := zwd_b hts h.1 h.2
      unfold zsl at q
      rw [hnum] at q
      exact q
  exact ⟨callB_of (mArg M' - 1) hts hGI hwsM rfl rfl hinw hlink ⟨hmh, hvh, hpar⟩ hR, hkw', hsl'⟩
set_option maxHeartbeats 1000000 in
theorem th_met (hflag : ∀ M ∈ zMs.drop 1, zchk M = true ∧ zloc M = true) (hls : l.stackTraces = false) {M : Mth} {n : Nat} (hMm : M ∈ zMs) (hnum : mNum M = n) (hnz : ¬ n = 0) (hc9 : mCls M = 9) (hpn : plainName (zy n).cls = true) (hni : zini.contains n = false) {as : List Value} {w : Wd} {pcT is q1 : Nat} {text : String}
    (hstr : ∀ U H, zXZ B a1 a2 U H → vk_R "RugReader" is text q1 U) (hcat : (as.map fun v => v.category).sum ≤ mLoc M) (hwn : wn w = 192) {k : Nat} {lv : List (Nat × Value)} (hpth : Pth (Ev 59) M k (0, lv_args 0 as, [], w) (pcT, lv, [], w))
    (d0 : decode (zby n) pcT = .ok (.new 134, 3)) (d3 : decode (zby n) (pcT + 3) = .ok (.dup, 1)) (d4 : decode (zby n) (pcT + 4) = .ok (.ldc is, 2)) (d6 : decode (zby n) (pcT + 6) = .ok (.invokespecial 138, 3)) (d9 : decode (zby n) (pcT + 9) = .ok (.athrow, 1)) :
    vx_Met l (zy n) (zcw M :: zWS) { frames := 61, cells := 1, slots := 6, locals := 1952 } (va_Pc (as.map (ztr B sa)) (fun U => zGX dC dI dA B L xs sa a1 a2 w U)) (fun _ _ _ _ => False) (fun E st t => E = E1 ∧ zHp dC dI dA B sa w t.heap ∧ va_F (zA B) st t) 1 6 (zA B) := by
  have hE := zmet (dC := dC) (dI := dI) (dA := dA) (B := B) (L := L) (xs := xs) (sa := sa) (l := l) hflag 59
  have hMd := zMs_ne hMm (by rw [hnum]; exact hnz)
  obtain ⟨hM, hL⟩ := hflag M hMd
  have hmok := zmok_all M hMd
  unfold zmok at hmok
  simp only [Bool.and_eq_true, Bool.or_eq_true, decide_eq_true_eq, hnum, Bool.not_eq_true'] at hmok
  obtain ⟨⟨⟨⟨⟨⟨⟨⟨⟨⟨⟨⟨⟨hkw, hkwg⟩, hsel⟩, hcls⟩, hcl15⟩, hplain⟩, hmh⟩, hvh⟩, hpar⟩, harg1⟩, hloc12⟩, hrk⟩, hinit⟩, hclst⟩ := hmok
  refine vx_ofW (cc := zby n) (maxL := mLoc M) (ret := zrt n) hpn (by unfold zcw; rw [hnum]) ?_
  intro p e s m args below meth c s₁ BL hml ht hv
  obtain ⟨rfl, hG, hZ⟩ := hv
  obtain ⟨hP, hK, hS, hN, hScr, hlow, hup⟩ := hG
  have hts := atoms_spec (ws := zcw M :: zWS) BL.pre
  have hown : s.vm.findClass (zC (mCls M)) = some m.cls := by rw [← hcls]; exact findClass_of_methodNamed BL.named
  have hC : zCtx dC dI dA B L xs sa M p s m (as.map (ztr B sa)).toArray meth c (headSpec (zcw M :: zWS) { frames := 61, cells := 1, slots := 6, locals := 1952 }).room := by
    refine ⟨BL.exec, by rw [hnum]; exact BL.bytes, hml, hown, fun q hq => hts q (List.mem_cons_of_mem _ hq), fun hi => ?_, hK, hS, hN, by omega, (show 1 ≤ 61 by decide), (show 32 ≤ 1952 by decide), hcl15⟩
    rw [hnum, hni] at hi
    cases hi
  have hl := lv_entry (as.map (ztr B sa)) (n := mLoc M) (by rw [lg_sl_len, ztr_sum]; exact hcat)
  rw [lg_entry_eq]
  generalize (lg_sl (as.map (ztr B sa)) ++ List.replicate (mLoc M - (lg_sl (as.map (ztr B sa))).length) Slot.unset).toArray = ls at hl ⊢
  rw [zlv_args] at hl
  have hown9 : s.vm.findClass "RugReader" = some m.cls := by
    have := hown
    rw [hc9] at this
    exact this
  have hB : ∀ w ∈ thB, w.before (as.map (ztr B sa)).toArray s = true := fun w hw => by
    have := hZ.2.2.2.2 w hw
    rcases thB_form w hw with ⟨x, rfl⟩ | ⟨a, b, rfl⟩
    · exact va_Nw.use rfl this
    · exact va_Nw.use rfl this
  have hz : ∀ w, w ∈ lw_tbl → goodWord w = true → w.before (as.map (ztr B sa)).toArray s = true := fun w h1 h2 => hts w (List.mem_cons_of_mem _ (List.mem_filter.mpr ⟨h1, h2⟩))
  have kend : zWk dC dI dA B L xs sa M p l e (headSpec (zcw M :: zWS) { frames := 61, cells := 1, slots := 6, locals := 1952 }).room s m (as.map (ztr B sa)).toArray below meth c (fun n => n - wn w) (fun n => zslt n - zslt (wn w)) (vx_MQ below (fun _ _ _ _ => False) (fun E st t => E = E1 ∧ zHp dC dI dA B sa w t.heap ∧ va_F (zA B) st t) (as.map (ztr B sa)).toArray s 1 6 (zA B)) (pcT, lv, [], w) := by
    intro H locs ls2 hA
    obtain ⟨g1, g2, g3, g4⟩ := hA
    dsimp only at g1 g2 g3 g4 ⊢
    rw [Nat.sub_self, Nat.sub_self]
    refine tg_throw (own := "RugReader") (cls := E1) (Y0 := Y1) (text := text) (names := ["java/lang/Exception"]) (ik := 134) (is := is) (ic := 138) (sa := q1) (i1 := 13) (b1 := prog_23_method_4_code) (A := zA B) BL.exec BL.bytes hls th_b1.1 th_b1.2.1 th_b1.2.2.1 th_b1.2.2.2 th_fit.2.1 hown9 th_fit.1 th_fit.2.2
      (hz _ th_k.1 th_k.2.1) (hz _ th_k.2.2.1 th_k.2.2.2) (hstr _ _ hZ) (vx_hat (B := thB) (fun w hw => hz w (th_in w hw) (List.mem_filter.mp hw).2) th_bad hB) th_ot hZ.1 hZ.2.1 g2 (g4.1.trans hml.symm) d0 d3 d4 d6 d9 (fun x hx => (ht x hx).elim) (show 1 + 4 < 61 by decide) (show 0 + (13 * (1 + 2) + 43) ≤ 1952 by decide) (show 0 + 1 ≤ 1 by decide) (show 0 + 6 ≤ 6 by decide) BL.notSynchronized ?_ g2.2.2 (by decide) (by decide)
    intro t ha h1 h2
    refine ⟨rfl, ⟨g1.1.kept (fun k q hk => h2 _ ((g1.1 k q hk).lt)), g1.2⟩, Nat.le_trans g2.1 h1, fun q hq hn => ?_⟩
    rw [h2 q (Nat.lt_of_lt_of_le hq g2.1)]
    exact g2.2.1 q hq hn
  have hcf : ∀ x y, wn w ≤ x → x ≤ y → (fun n => n - wn w) y = (fun n => n - wn w) x + (y - x) ∧ (fun n => zslt n - zslt (wn w)) y = (fun n => zslt n - zslt (wn w)) x + (zslt y - zslt x) := by
    intro x y h1 h2
    have q1 := zslt_mono h1
    have q2 := zslt_mono h2
    dsimp only
    omega
  have hex : ∀ n, wn w ≤ n → n < zK → s.heap.size + (fun n => n - wn w) n ≤ B + n := by
    intro q h1 h2
    have : zK = 192 := rfl
    omega
  have hcap : ∀ n, wn w ≤ n → n ≤ wn w → (fun n => n - wn w) n ≤ (headSpec (zcw M :: zWS) { frames := 61, cells := 1, slots := 6, locals := 1952 }).room.cells ∧ (fun n => zslt n - zslt (wn w)) n ≤ (headSpec (zcw M :: zWS) { frames := 61, cells := 1, slots := 6, locals := 1952 }).room.slots := by
    intro q h1 h2
    have : q = wn w := by omega
    subst this
    dsimp only
    rw [Nat.sub_self, Nat.sub_self]
    exact ⟨Nat.zero_le _, Nat.zero_le _⟩
  have kst := zpath hM hL hC hE (show 59 + 1 ≤ 61 by decide) (show 32 * (59 + 1) ≤ 1952 by decide) hcf hex hcap k hpth (Nat.le_refl _) (Nat.le_refl _) kend
  have kk := kst s.heap [] ls ⟨hP, va_S.rf, hScr, hl⟩
  simp only [Nat.sub_self] at kk
  exact kk
end TH
