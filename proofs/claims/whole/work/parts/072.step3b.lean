/-! .. the step itself, of rows and new objects -/
section ZT4
variable {dC : Nat → ClassId} {dI : Nat → Nat → Nat} {dA : Nat → ClassId} {B L : Nat} {xs : Nat → Int32} {sa : Nat → Nat}
variable {p : Program} {l : Launch} {e : Env} {R : Room} {s : State} {m : MethodId} {args : Array Value} {below : List Frame} {meth : Method} {c : Code} {Q : State → Prop}
theorem zix_L {w : Wd} (h : zScr L xs w) : ix (wI w 1003 0) = L := by
  unfold ix
  rw [h.2.1]
  exact Int32.toNatClampNeg_ofNat_of_lt h.2.2
theorem ib_nn {i : Int32} {n : Nat} (h : ib i n = true) : ix i < n := by
  simp only [ib, Bool.and_eq_true, decide_eq_true_eq] at h
  exact h.2
set_option maxHeartbeats 2000000 in
theorem zstep3 {M : Mth} (hM : zchk M = true) (C : zCtx dC dI dA B L xs sa M p s m args meth c R) {cf sf : Nat → Nat} {a b : Cfg} {op : Op4} {npc : Nat} (ho : opAt (mCode M) a.1 = some (op, npc)) (hz : zst' M op npc a.2.1 a.2.2.1 a.2.2.2 = some b) (hg : zgr op.1 = 3)
    {n0 : Nat} (hn0 : n0 ≤ wn a.2.2.2) (hcf : ∀ n, n0 ≤ n → cf (n + 1) = cf n + 1 ∧ sf (n + 1) = sf n + (zsh n).2) (hex : ∀ n, n0 ≤ n → n < zK → s.heap.size + cf n ≤ B + n) (hcap : cf (wn b.2.2.2) ≤ R.cells ∧ sf (wn b.2.2.2) ≤ R.slots)
    (k : zWk dC dI dA B L xs sa M p l e R s m args below meth c cf sf Q b) : zWk dC dI dA B L xs sa M p l e R s m args below meth c cf sf Q a := by
  obtain ⟨i, len, hd, hln, hn, hI⟩ := zdec_op hM ho
  obtain ⟨hx, hb, hml, hown, hts, hini, hK, hS, hN, hB, hfr, hlo, hc15⟩ := C
  obtain ⟨pc, lv, st, w⟩ := a
  intro H locs ls hA
  obtain ⟨hP, hSS, hScr, hl⟩ := hA
  dsimp only at hP hSS hScr hl ho hz hI hd hn hn0 ⊢
  subst hn
  have hlow := zhp_low hP hSS hB
  cases i
  case iaload =>
    have hln := Nat.eq_of_beq_eq_true hln; subst hln
    simp only [trI, Option.some.injEq] at hI; subst hI
    simp only [zst', zgr, zs3] at hz
    split at hz
    · rename_i i o r
      split at hz
      · rename_i h1000
        split at hz
        · rename_i hi
          cases hz
          subst h1000
          rw [zix_L hScr] at hi
          exact va_ti hx hb hS.2.2.2.2.2.2.1 hSS (ib_vp hi) (v := .int (wI w 1000 (ix i))) (by show Value.int (xs _) = _; rw [hScr.1]) hd (k H locs ls ⟨hP, hSS, hScr, hl⟩)
        · cases hz
      · split at hz
        · rename_i hc
          cases hz
          obtain ⟨ho1, ho2⟩ := zobj_iff hc.1
          show W p l e R s m args below meth c H locs _ _ Q (F0 m pc ls (.int i :: .ref (zad B sa o) :: r.map (ztr B sa)))
          rw [zad_own (Nat.lt_of_lt_of_le ho1 hP.2)]
          exact va_iald hx hb hK hP.1 o 0 (by rw [zws_get ho1, zcell_int ho2 (Or.inl rfl)]) rfl (ib_vp hc.2) hd (k H locs ls ⟨hP, hSS, hScr, hl⟩)
        · cases hz
    · cases hz
  case laload =>
    have hln := Nat.eq_of_beq_eq_true hln; subst hln
    simp only [trI, Option.some.injEq] at hI; subst hI
    simp only [zst', zgr, zs3] at hz
    split at hz
    · rename_i i o r
      split at hz
      · rename_i hc
        cases hz
        obtain ⟨ho1, ho2⟩ := zobj_iff hc.1
        show W p l e R s m args below meth c H locs _ _ Q (F0 m pc ls (.int i :: .ref (zad B sa o) :: r.map (ztr B sa)))
        rw [zad_own (Nat.lt_of_lt_of_le ho1 hP.2)]
        exact va_lald hx hb hK hP.1 o 1 (by rw [zws_get ho1, zcell_long ho2]) rfl (ib_vp hc.2) hd (k H locs ls ⟨hP, hSS, hScr, hl⟩)
      · cases hz
    · cases hz
  case baload =>
    have hln := Nat.eq_of_beq_eq_true hln; subst hln
    simp only [trI, Option.some.injEq] at hI; subst hI
    simp only [zst', zgr, zs3] at hz
    split at hz
    · rename_i i o r
      split at hz
      · rename_i hc
        cases hz
        show W p l e R s m args below meth c H locs _ _ Q (F0 m pc ls (.int i :: .ref (zad B sa o) :: r.map (ztr B sa)))
        rcases hc.1 with h | h
        · obtain ⟨ho1, ho2⟩ := zobj_iff h
          rw [zad_own (Nat.lt_of_lt_of_le ho1 hP.2)]
          exact va_bald hx hb hK hP.1 o 2 (by rw [zws_get ho1, zcell_int ho2 (Or.inr (Or.inl rfl))]) rfl (ib_vp hc.2) hd (k H locs ls ⟨hP, hSS, hScr, hl⟩)
        · obtain ⟨ho1, ho2⟩ := zobj_iff h
          rw [zad_own (Nat.lt_of_lt_of_le ho1 hP.2)]
          exact va_zald hx hb hK hP.1 o 3 (by rw [zws_get ho1, zcell_int ho2 (Or.inr (Or.inr rfl))]) rfl (ib_vp hc.2) hd (k H locs ls ⟨hP, hSS, hScr, hl⟩)
      · cases hz
    · cases hz
  case aaload =>
    have hln := Nat.eq_of_beq_eq_true hln; subst hln
    simp only [trI, Option.some.injEq] at hI; subst hI
    simp only [zst', zgr, zs3] at hz
    split at hz
    · rename_i i o r
      split at hz
      · rename_i h1001
        split at hz
        · rename_i hi
          cases hz
          subst h1001
          exact vb_tq hx hb hS.2.1 hSS (ib_vp hi) (v := ztr B sa (.ref (1010 + ix i))) (by show Value.ref (sa _) = .ref (zad B sa _); rw [zad_word (by omega), show 10 + (1010 + ix i - 1010) = 10 + ix i by omega]) hd (k H locs ls ⟨hP, hSS, hScr, hl⟩)
        · cases hz
      · split at hz
        · rename_i hc
          cases hz
          have k' := k H locs ls ⟨hP, hSS, hScr, hl⟩
          simp only [List.map_cons, ztr_rf] at k'
          show W p l e R s m args below meth c H locs _ _ Q (F0 m pc ls (.int i :: .ref (zad B sa o) :: r.map (ztr B sa)))
          rcases hc.1 with h | h | h
          · obtain ⟨ho1, ho2⟩ := zobj_iff h
            rw [zad_own (Nat.lt_of_lt_of_le ho1 hP.2)]
            exact va_aldq hx hb hK hP.1 o 4 (by rw [zws_get ho1, zcell_ref ho2 (by decide)]) rfl (ib_vp hc.2) hd k'
          · obtain ⟨ho1, ho2⟩ := zobj_iff h
            rw [zad_own (Nat.lt_of_lt_of_le ho1 hP.2)]
            exact va_aldq hx hb hK hP.1 o 5 (by rw [zws_get ho1, zcell_ref ho2 (by decide)]) rfl (ib_vp hc.2) hd k'
          · obtain ⟨ho1, ho2⟩ := zobj_iff h
            rw [zad_own (Nat.lt_of_lt_of_le ho1 hP.2)]
            exact va_aldq hx hb hK hP.1 o 6 (by rw [zws_get ho1, zcell_ref ho2 (by decide)]) rfl (ib_vp hc.2) hd k'
        · cases hz
    · cases hz
  case iastore =>
    have hln := Nat.eq_of_beq_eq_true hln; subst hln
    simp only [trI, Option.some.injEq] at hI; subst hI
    simp only [zst', zgr, zs3] at hz
    split at hz
    · rename_i x i o r
      split at hz
      · rename_i hc
        cases hz
        obtain ⟨ho1, ho2⟩ := zobj_iff hc.1
        show W p l e R s m args below meth c H locs _ _ Q (F0 m pc ls (.int x :: .int i :: .ref (zad B sa o) :: r.map (ztr B sa)))
        rw [zad_own (Nat.lt_of_lt_of_le ho1 hP.2)]
        exact va_iast hx hb hK hP.1 (zD w) hSS o 0 (by rw [zws_get ho1, zcell_int ho2 (Or.inl rfl)]) rfl (ib_vp hc.2) hd (fun H1 locs1 q1 _ q2 => k H1 locs1 ls ⟨⟨by rw [zset_i ho1 ho2 (Or.inl rfl)] at q1; exact q1, hP.2⟩, q2, zscr_sI hScr _ (Nat.lt_of_lt_of_le ho1 hP.2), hl⟩)
      · cases hz
    · cases hz
  case lastore =>
    have hln := Nat.eq_of_beq_eq_true hln; subst hln
    simp only [trI, Option.some.injEq] at hI; subst hI
    simp only [zst', zgr, zs3] at hz
    split at hz
    · rename_i x i o r
      split at hz
      · rename_i hc
        cases hz
        obtain ⟨ho1, ho2⟩ := zobj_iff hc.1
        show W p l e R s m args below meth c H locs _ _ Q (F0 m pc ls (.long x :: .int i :: .ref (zad B sa o) :: r.map (ztr B sa)))
        rw [zad_own (Nat.lt_of_lt_of_le ho1 hP.2)]
        exact va_last hx hb hK hP.1 (zD w) hSS o 1 (by rw [zws_get ho1, zcell_long ho2]) rfl (ib_vp hc.2) hd (fun H1 locs1 q1 _ q2 => k H1 locs1 ls ⟨⟨by rw [zset_l ho1 ho2] at q1; exact q1, hP.2⟩, q2, hScr, hl⟩)
      · cases hz
    · cases hz
  case bastore =>
    have hln := Nat.eq_of_beq_eq_true hln; subst hln
    simp only [trI, Option.some.injEq] at hI; subst hI
    simp only [zst', zgr, zs3] at hz
    split at hz
    · rename_i x i o r
      split at hz
      · rename_i hc
        cases hz
        obtain ⟨ho1, ho2⟩ := zobj_iff hc.1
        show W p l e R s m args below meth c H locs _ _ Q (F0 m pc ls (.int x :: .int i :: .ref (zad B sa o) :: r.map (ztr B sa)))
        rw [zad_own (Nat.lt_of_lt_of_le ho1 hP.2)]
        exact va_bast hx hb hK hP.1 (zD w) hSS o 2 (by rw [zws_get ho1, zcell_int ho2 (Or.inr (Or.inl rfl))]) rfl (ib_vp hc.2) hd (fun H1 locs1 q1 _ q2 => k H1 locs1 ls ⟨⟨by rw [zset_i ho1 ho2 (Or.inr (Or.inl rfl))] at q1; exact q1, hP.2⟩, q2, zscr_sI hScr _ (Nat.lt_of_lt_of_le ho1 hP.2), hl⟩)
      · split at hz
        · rename_i hc
          cases hz
          obtain ⟨ho1, ho2⟩ := zobj_iff hc.1
          show W p l e R s m args below meth c H locs _ _ Q (F0 m pc ls (.int x :: .int i :: .ref (zad B sa o) :: r.map (ztr B sa)))
          rw [zad_own (Nat.lt_of_lt_of_le ho1 hP.2)]
          exact va_zast hx hb hK hP.1 (zD w) hSS o 3 (by rw [zws_get ho1, zcell_int ho2 (Or.inr (Or.inr rfl))]) rfl (ib_vp hc.2) hd (fun H1 locs1 q1 _ q2 => k H1 locs1 ls ⟨⟨by rw [zset_i ho1 ho2 (Or.inr (Or.inr rfl))] at q1; exact q1, hP.2⟩, q2, zscr_sI hScr _ (Nat.lt_of_lt_of_le ho1 hP.2), hl⟩)
        · cases hz
    · cases hz
  case aastore =>
    have hln := Nat.eq_of_beq_eq_true hln; subst hln
    simp only [trI, Option.some.injEq] at hI; subst hI
    simp only [zst', zgr, zs3] at hz
    split at hz
    · rename_i x i o r
      split at hz
      · rename_i hc
        cases hz
        show W p l e R s m args below meth c H locs _ _ Q (F0 m pc ls (.ref (zad B sa x) :: .int i :: .ref (zad B sa o) :: r.map (ztr B sa)))
        rcases hc.1 with h | h | h
        · obtain ⟨ho1, ho2⟩ := zobj_iff h.1
          obtain ⟨hq1, hq2⟩ := zobj_iff h.2
          have hxq := zad_own (B := B) (sa := sa) (Nat.lt_of_lt_of_le hq1 hP.2)
          rw [zad_own (Nat.lt_of_lt_of_le ho1 hP.2), hxq]
          exact va_astq hx hb hK hP.1 (zD w) hSS o 4 x 1 (r := (zC 1, zT 1, zN 1)) (by rw [zws_get ho1, zcell_ref ho2 (by decide)]) rfl (by rw [zws_get hq1, zcell_obj (Nat.lt_of_lt_of_le hq1 hP.2) hq2 (by decide)]) (zcl_get (by decide)) (ib_vp hc.2) hd (fun H1 locs1 q1 _ q2 => k H1 locs1 ls ⟨⟨by rw [← hxq] at q1; rw [zset_q ho1 ho2 (by decide)] at q1; exact q1, hP.2⟩, q2, hScr, hl⟩)
        · obtain ⟨ho1, ho2⟩ := zobj_iff h.1
          obtain ⟨hq1, hq2⟩ := zobj_iff h.2
          have hxq := zad_own (B := B) (sa := sa) (Nat.lt_of_lt_of_le hq1 hP.2)
          rw [zad_own (Nat.lt_of_lt_of_le ho1 hP.2), hxq]
          exact va_astq hx hb hK hP.1 (zD w) hSS o 5 x 5 (r := (zC 5, zT 5, zN 5)) (by rw [zws_get ho1, zcell_ref ho2 (by decide)]) rfl (by rw [zws_get hq1, zcell_obj (Nat.lt_of_lt_of_le hq1 hP.2) hq2 (by decide)]) (zcl_get (by decide)) (ib_vp hc.2) hd (fun H1 locs1 q1 _ q2 => k H1 locs1 ls ⟨⟨by rw [← hxq] at q1; rw [zset_q ho1 ho2 (by decide)] at q1; exact q1, hP.2⟩, q2, hScr, hl⟩)
        · obtain ⟨ho1, ho2⟩ := zobj_iff h.1
          obtain ⟨hq1, hq2⟩ := zobj_iff h.2
          have hxq := zad_own (B := B) (sa := sa) (Nat.lt_of_lt_of_le hq1 hP.2)
          rw [zad_own (Nat.lt_of_lt_of_le ho1 hP.2), hxq]
          exact va_astq hx hb hK hP.1 (zD w) hSS o 6 x 6 (r := (zC 6, zT 6, zN 6)) (by rw [zws_get ho1, zcell_ref ho2 (by decide)]) rfl (by rw [zws_get hq1, zcell_obj (Nat.lt_of_lt_of_le hq1 hP.2) hq2 (by decide)]) (zcl_get (by decide)) (ib_vp hc.2) hd (fun H1 locs1 q1 _ q2 => k H1 locs1 ls ⟨⟨by rw [← hxq] at q1; rw [zset_q ho1 ho2 (by decide)] at q1; exact q1, hP.2⟩, q2, hScr, hl⟩)
      · cases hz
    · cases hz
  case arraylength =>
    have hln := Nat.eq_of_beq_eq_true hln; subst hln
    simp only [trI, Option.some.injEq] at hI; subst hI
    simp only [zst', zgr, zs3] at hz
    split at hz
    · rename_i o r
      split at hz
      · rename_i h1000
        cases hz
        subst h1000
        exact va_tlen hx hb hS.2.2.2.2.2.2.1 hSS (v := wI w 1003 0) (by rw [hScr.2.1]) hd (k H locs ls ⟨hP, hSS, hScr, hl⟩)
      · split at hz
        · rename_i h1001
          cases hz
          subst h1001
          exact va_tlen hx hb hS.2.1 hSS (v := 20) (by decide) hd (k H locs ls ⟨hP, hSS, hScr, hl⟩)
        · cases hz
    · cases hz
  case new j =>
    have hln := Nat.eq_of_beq_eq_true hln; subst hln
    simp only [trI] at hI
    cases hr : lkC (mCls M) j with
    | none => rw [hr] at hI; cases hI
    | some r =>
      rw [hr] at hI
      cases hI
      obtain ⟨h1, h2, h3⟩ := lkC_ok hr
      obtain ⟨h4, h5⟩ := zcls_ok r h1
      rw [h2, h3] at h4 h5
      obtain ⟨rc, rj, ci, rp⟩ := r
      dsimp only at h4 h5 h2 h3
      simp only [zst', zgr, zs3] at hz
      split at hz
      · rename_i hc
        obtain ⟨c1, c2, c3⟩ := hc
        cases hz
        obtain ⟨f1, f2⟩ := hcf (wn w) hn0
        have hh := hex (wn w) hn0 c1
        have hcap1 : cf (wn w) + 1 ≤ R.cells := by have := hcap.1; rw [← f1]; exact this
        have hcap2 : sf (wn w) + (zsh (wn w)).2 ≤ R.slots := by have := hcap.2; rw [← f2]; exact this
        have hN1 : (zsh (wn w)).2 = zN ci := by rw [zsh_obj _ c1 (by rw [c2]; exact c3), c2]
        rw [hN1] at hcap2
        have hw1 : (Jvm.Cond.classLink (zC (mCls M)) j (zC ci)).before args s = true := zwd_b hts h4 h5
        have hw2 : (Jvm.Cond.instantiable (zC ci) (zN ci)).before args s = true := zwd_b hts (zinst ci c3).1 (zinst ci c3).2
        have hw3 : (Jvm.Cond.initialized (zC ci)).before args s = true := zwd_b hts (zinit ci (by omega)).1 (zinit ci (by omega)).2
        have hKn := hK.1 ci _ (zcl_get c3)
        have hz1 : ztr B sa (.ref (wn w)) = .ref (B + wn w) := by show Value.ref (zad B sa _) = _; rw [zad_own c1]
        have e2 : cf (wn (alc w)) = cf (wn w) + 1 := f1
        have e3 : sf (wn (alc w)) = sf (wn w) + zN ci := by rw [← hN1]; exact f2
        have key : H.size = B + wn w → W p l e R s m args below meth c H locs (cf (wn w)) (sf (wn w)) Q (F0 m pc ls (st.map (ztr B sa))) := by
          intro hsz
          refine W.newcK (C := zC ci) (n := zN ci) (index := j) (h := B + wn w) (cC := dC ci) hx hb hown hw1 hw2 hw3 rfl hd hcap1 hcap2 hKn.2.1 hsz (fun H1 kC hkC e1 z1 o1 => ?_)
          obtain ⟨g1, g2⟩ := zhp_new (dC := dC) (dI := dI) hP hSS hB (z := zcell dA B sa (alc w) (wn w)) rfl hsz c1 (by
            rw [zcell_obj c1 c2 c3]
            refine ⟨_, zcl_get c3, (u_born (zTy ci) hts (zlay _ c3) hKn hkC e1 (zty_ok _ c3)).to (fun q hq => ?_)⟩
            have hq' : q < zN ci := hq
            have hv := zdef_val _ c3 q hq'
            show defaultValue (zTy ci q) = ((List.range (zN ci)).map _).getD q .null
            rw [List.getD_eq_getElem?_getD, List.getElem?_map, List.getElem?_range hq']
            simp only [Option.map_some, Option.getD_some]
            split at hv
            · rename_i hty; rw [hty, hv]; simp [zfv, zalc_R, defaultValue, va_rf, ztr]
            · rename_i hty; rw [hty, hv]; simp [zfv, zalc_R, defaultValue, va_rf, ztr]
            · rename_i hty; rw [hty, hv]; simp [zfv, zalc_L, defaultValue, ztr]
            · rename_i hty; rw [hty, hv]; simp [zfv, zalc_I, defaultValue, ztr]
            · rename_i hty; rw [hty, hv]; simp [zfv, zalc_I, defaultValue, ztr]
            · cases hv) (by omega) (fun q hq => o1 q (by omega))
          have k' := k H1 locs ls ⟨g1, g2, zscr_alc hScr (Nat.lt_trans c1 (by decide)), hl⟩
          dsimp only at k'
          rw [List.map_cons, hz1, e2, e3] at k'
          exact k'
        intro T hT X
        refine key ?_ T hT X
        have q := X.heapSize
        rw [hT] at q
        omega
      · cases hz
  case newarray at0 =>
    have key : ∀ (ty : FieldType) (a : Nat) (kd : Nat) (z : Nat → Nat → Value), newarray.typeOf at0 = ty → (Jvm.Cond.arrayClass ty).before args s = true → (ztys dA)[kd]? = some (dA a, ty) → (∀ cA : ClassId, va_RA s cA ty → va_RA s (dA a) ty → cA = dA a) → (∀ cA : ClassId, s.vm.findClass ("[" ++ ty.toString) = some cA → va_RA s cA ty) → componentBytes ty ≤ 16 → 101 ≤ a ∧ a ≤ 104 →
        (∀ (n : Nat), (zsh (wn w)).1 = a → (zsh (wn w)).2 = n → ∃ x : vp_A, zcell dA B sa (alc w) (wn w) = .inl (dA a, x) ∧ vp_cell (dA a) x = arrV (dA a) n (fun _ => defaultValue ty)) →
        op = (37, a, 0, 0) → W p l e R s m args below meth c H locs (cf (wn w)) (sf (wn w)) Q (F0 m pc ls (st.map (ztr B sa))) := by
      intro ty a kd zz hty harr hkd hsm hnm hcb ha hcell hop
      subst hop
      have hln := Nat.eq_of_beq_eq_true hln; subst hln
      simp only [zst', zgr, zs3] at hz
      split at hz
      · rename_i n r
        split at hz
        · rename_i hc
          obtain ⟨c1, c2, -, -, c5, c6⟩ := hc
          cases hz
          obtain ⟨f1, f2⟩ := hcf (wn w) hn0
          have hh := hex (wn w) hn0 c1
          have hcap1 : cf (wn w) + 1 ≤ R.cells := by have := hcap.1; rw [← f1]; exact this
          have hcap2 : sf (wn w) + (zsh (wn w)).2 ≤ R.slots := by have := hcap.2; rw [← f2]; exact this
          have hz1 : ztr B sa (.ref (wn w)) = .ref (B + wn w) := by show Value.ref (zad B sa _) = _; rw [zad_own c1]
          have e2 : cf (wn (alc w)) = cf (wn w) + 1 := f1
          have e3 : sf (wn (alc w)) = sf (wn w) + (zsh (wn w)).2 := f2
          have h105 := (zsh_kind (wn w) c1).2
          have hmul : (zsh (wn w)).2 * componentBytes ty ≤ 100000 * 16 := Nat.mul_le_mul (Nat.le_of_lt h105) hcb
          have key : H.size = B + wn w → W p l e R s m args below meth c H locs (cf (wn w)) (sf (wn w)) Q (F0 m pc ls (.int n :: r.map (ztr B sa))) := by
            intro hsz
            subst hty
            refine va_newaK (N := (zsh (wn w)).2) (h := B + wn w) hx hb harr rfl hd rfl (Int32.not_lt.mpr c5) c6 (by omega) hcap1 hcap2 hsz (fun H1 cA e1 z1 o1 hAr hNm => ?_)
            have hcA : cA = dA a := hsm cA (hnm cA hNm) (hK.2 kd _ hkd).2
            subst hcA
            obtain ⟨x, x1, x2⟩ := hcell _ c2 rfl
            obtain ⟨g1, g2⟩ := zhp_new (dC := dC) (dI := dI) hP hSS hB x1 hsz c1 (by
              show H1[B + wn w]? = some (vp_cell _ _)
              rw [x2]; exact e1) (by omega) (fun q hq => o1 q (by omega))
            have k' := k H1 locs ls ⟨g1, g2, zscr_alc hScr (Nat.lt_trans c1 (by decide)), hl⟩
            dsimp only at k'
            rw [List.map_cons, hz1, e2, e3] at k'
            exact k'
          intro T hT X
          refine key ?_ T hT X
          have q := X.heapSize
          rw [hT] at q
          omega
        · cases hz
      · cases hz
    have hcI : ∀ (n a : Nat), a = 101 ∨ a = 103 ∨ a = 104 → (zsh (wn w)).1 = a → (zsh (wn w)).2 = n → ∃ x : vp_A, zcell dA B sa (alc w) (wn w) = .inl (dA a, x) ∧ vp_cell (dA a) x = arrV (dA a) n (fun _ => .int 0) := by
      intro n a ha h1 h2
      refine ⟨_, zcell_int h1 ha, ?_⟩
      rw [vp_cell_i, h2]
      refine congrArg (arrV (dA a) n) (funext fun j => ?_)
      rw [zalc_I]
    have hcL : ∀ (n : Nat), (zsh (wn w)).1 = 102 → (zsh (wn w)).2 = n → ∃ x : vp_A, zcell dA B sa (alc w) (wn w) = .inl (dA 102, x) ∧ vp_cell (dA 102) x = arrV (dA 102) n (fun _ => .long 0) := by
      intro n h1 h2
      refine ⟨_, zcell_long h1, ?_⟩
      rw [vp_cell_l, h2]
      refine congrArg (arrV (dA 102) n) (funext fun j => ?_)
      rw [zalc_L]
    cases at0 <;> simp only [trI] at hI <;> first | (cases hI; done) | skip
    · cases hI
      exact key .boolean 104 3 (fun _ _ => .null) rfl (hts _ (zin_of _ zarr.2.2.2 rfl)) rfl (fun cA q1 q2 => Option.some.inj (q1.symm.trans q2)) (fun cA q => q) (by decide) (by decide) (fun n => hcI n 104 (by decide)) rfl
    · cases hI
      exact key .byte 103 2 (fun _ _ => .null) rfl (hts _ (zin_of _ zarr.2.2.1 rfl)) rfl (fun cA q1 q2 => Option.some.inj (q1.symm.trans q2)) (fun cA q => q) (by decide) (by decide) (fun n => hcI n 103 (by decide)) rfl
    · cases hI
      exact key .int 101 0 (fun _ _ => .null) rfl (hts _ (zin_of _ zarr.1 rfl)) rfl (fun cA q1 q2 => Option.some.inj (q1.symm.trans q2)) (fun cA q => q) (by decide) (by decide) (fun n => hcI n 101 (by decide)) rfl
    · cases hI
      exact key .long 102 1 (fun _ _ => .null) rfl (hts _ (zin_of _ zarr.2.1 rfl)) rfl (fun cA q1 q2 => Option.some.inj (q1.symm.trans q2)) (fun cA q => q) (by decide) (by decide) hcL rfl
  case anewarray j =>
    have hln := Nat.eq_of_beq_eq_true hln; subst hln
    simp only [trI] at hI
    cases hr : lkC (mCls M) j with
    | none => rw [hr] at hI; cases hI
    | some r =>
      rw [hr] at hI
      cases hI
      obtain ⟨h1, h2, h3⟩ := lkC_ok hr
      obtain ⟨h4, h5⟩ := zcls_ok r h1
      rw [h2, h3] at h4 h5
      obtain ⟨rc, rj, ci, rp⟩ := r
      dsimp only at h4 h5 h2 h3
      have hw1 : (Jvm.Cond.classLink (zC (mCls M)) j (zC ci)).before args s = true := zwd_b hts h4 h5
      simp only [zst', zgr, zs3] at hz
      split at hz
      · rename_i n r
        split at hz
        · rename_i hc
          obtain ⟨c1, c2, c3, c5, c6⟩ := hc
          cases hz
          obtain ⟨f1, f2⟩ := hcf (wn w) hn0
          have hh := hex (wn w) hn0 c1
          have hcap1 : cf (wn w) + 1 ≤ R.cells := by have := hcap.1; rw [← f1]; exact this
          have hcap2 : sf (wn w) + (zsh (wn w)).2 ≤ R.slots := by have := hcap.2; rw [← f2]; exact this
          have hz1 : ztr B sa (.ref (wn w)) = .ref (B + wn w) := by show Value.ref (zad B sa _) = _; rw [zad_own c1]
          have e2 : cf (wn (alc w)) = cf (wn w) + 1 := f1
          have e3 : sf (wn (alc w)) = sf (wn w) + (zsh (wn w)).2 := f2
          have h105 := (zsh_kind (wn w) c1).2
          have hover : va_AO (zC ci) s ∧ ∃ kd : Nat, (ztys dA)[kd]? = some (dA (110 + ci), .object (zC ci)) := by
            rcases c3 with q | q | q <;> subst q
            · exact ⟨hN.2.2.1, 4, rfl⟩
            · exact ⟨hN.2.2.2.1, 5, rfl⟩
            · exact ⟨hN.2.2.2.2, 6, rfl⟩
          obtain ⟨hov, kd, hkd⟩ := hover
          have key : H.size = B + wn w → W p l e R s m args below meth c H locs (cf (wn w)) (sf (wn w)) Q (F0 m pc ls (.int n :: r.map (ztr B sa))) := by
            intro hsz
            refine W.anew (C := zC ci) hx hb hown hw1 (va_AO.use hov) rfl hd rfl (Int32.not_lt.mpr c5) (by rw [show n.toNatClampNeg = (zsh (wn w)).2 from c6]; omega) hcap1 (by rw [show n.toNatClampNeg = (zsh (wn w)).2 from c6]; exact hcap2) (fun cA kA comp q1 q2 q3 q4 => ?_)
            have hcA : cA = dA (110 + ci) := by
              obtain ⟨kA', comp', -, -, -, g4⟩ := (hK.2 kd _ hkd).2
              exact Option.some.inj (q1.symm.trans g4)
            subst hcA
            generalize hH1 : H.push ({ cls := dA (110 + ci), slots := Array.replicate n.toNatClampNeg .null, vm := .none } : Cell) = H1
            have z1 : H1.size = H.size + 1 := by rw [← hH1, Array.size_push]
            have e1 : H1[H.size]? = some (arrV (dA (110 + ci)) n.toNatClampNeg (fun _ => .null)) := by rw [← hH1, Array.getElem?_push_size, ← arrV_new]
            have o1 : ∀ q : Nat, q < H.size → H1[q]? = H[q]? := fun q hq => by rw [← hH1, Array.getElem?_push, if_neg (Nat.ne_of_lt hq)]
            obtain ⟨g1, g2⟩ := zhp_new (dC := dC) (dI := dI) hP hSS hB (zcell_ref c2 (by omega)) hsz c1 (by
              rw [← hsz]
              show H1[H.size]? = some (vp_cell _ _)
              rw [e1, ← c6]
              refine congrArg some ?_
              rw [vp_cell_q]
              refine congrArg (arrV (dA (110 + ci)) (ix n)) (funext fun b => ?_)
              rw [zalc_R]; rfl) z1 o1
            have k' := k H1 locs ls ⟨g1, g2, zscr_alc hScr (Nat.lt_trans c1 (by decide)), hl⟩
            dsimp only at k'
            rw [List.map_cons, hz1, e2, e3, ← hsz, ← c6] at k'
            exact k'
          intro T hT X
          refine key ?_ T hT X
          have q := X.heapSize
          rw [hT] at q
          omega
        · cases hz
      · cases hz
  case invokestatic j =>
    have hln := Nat.eq_of_beq_eq_true hln; subst hln
    simp only [trI, mOp] at hI
    cases hr : lkM (mCls M) j with
    | none => rw [hr] at hI; cases hI
    | some r =>
      rw [hr] at hI
      simp only [Option.bind_some] at hI
      split at hI
      · rename_i h1000
        split at hI
        · cases hI
          obtain ⟨h1, h2, h3⟩ := lkM_ok hr
          obtain ⟨h4, h5, h6⟩ := zml_ok _ hc15 r h1
          have hn := zml_1000 _ hc15 r h1 (by omega)
          have h5 := h5 hn
          have h7 : zmw r = .methodLink (zC (mCls M)) j arraycopyName := by
            unfold zmw zyy
            rw [hn, if_neg (by decide), h1000, h2, h3]; rfl
          rw [h7] at h4 h5
          simp only [zst', zgr, zs3] at hz
          split at hz
          · rename_i n dp q sp o r'
            split at hz
            · rename_i hc
              obtain ⟨c0, c1, c2, c3, c4, c5⟩ := hc
              have hloc : ((r'.map (ztr B sa)).map fun v => v.category).sum + (nativeFrameWords "java/lang/System" "arraycopy" 5 + 11) ≤ R.locals := by
                rw [ztr_sum, show nativeFrameWords "java/lang/System" "arraycopy" 5 = 7 by decide]
                omega
              show W p l e R s m args below meth c H locs _ _ Q (F0 m pc ls (.int n :: .int dp :: .ref (zad B sa q) :: .int sp :: .ref (zad B sa o) :: r'.map (ztr B sa)))
              split at hz
              · rename_i hc
                cases hz
                obtain ⟨ho1, ho2⟩ := zobj_iff hc.1
                obtain ⟨hq1, hq2⟩ := zobj_iff hc.2
                rw [zad_own (Nat.lt_of_lt_of_le ho1 hP.2), zad_own (Nat.lt_of_lt_of_le hq1 hP.2)]
                exact va_copyi hx hb (hml.trans hl.1.symm) hown (zwd_b hts h4 h5) (zwd_b hts zcpw.1.1 zcpw.1.2) (zwd_b hts zcpw.2.1.1 zcpw.2.1.2) (zwd_b hts zcpw.2.2.1 zcpw.2.2.2) hK hP.1 (zD w) hSS o q 0 0 (ty := .int) (by rw [zws_get ho1, zcell_int ho2 (Or.inl rfl)]) (by rw [zws_get hq1, zcell_int hq2 (Or.inl rfl)]) rfl rfl rfl
                  (Int32.not_lt.mpr c1) (Int32.not_lt.mpr c2) (Int32.not_lt.mpr c3) c4 c5 (fun _ _ => rfl) hfr hloc hd (fun H1 locs1 q1 _ q2 => k H1 locs1 ls ⟨⟨by rw [zset_ri hq1 hq2] at q1; exact q1, hP.2⟩, q2, zscr_rI hScr _ (Nat.lt_of_lt_of_le hq1 hP.2), hl⟩)
              · split at hz
                · rename_i hc
                  cases hz
                  obtain ⟨ho1, ho2⟩ := zobj_iff hc.1
                  obtain ⟨hq1, hq2⟩ := zobj_iff hc.2
                  rw [zad_own (Nat.lt_of_lt_of_le ho1 hP.2), zad_own (Nat.lt_of_lt_of_le hq1 hP.2)]
                  exact va_copyl hx hb (hml.trans hl.1.symm) hown (zwd_b hts h4 h5) (zwd_b hts zcpw.1.1 zcpw.1.2) (zwd_b hts zcpw.2.1.1 zcpw.2.1.2) (zwd_b hts zcpw.2.2.1 zcpw.2.2.2) hK hP.1 (zD w) hSS o q 1 1 (ty := .long) (by rw [zws_get ho1, zcell_long ho2]) (by rw [zws_get hq1, zcell_long hq2]) rfl rfl rfl
                    (Int32.not_lt.mpr c1) (Int32.not_lt.mpr c2) (Int32.not_lt.mpr c3) c4 c5 (fun _ _ => rfl) hfr hloc hd (fun H1 locs1 q1 _ q2 => k H1 locs1 ls ⟨⟨by rw [zset_rl hq1 hq2] at q1; exact q1, hP.2⟩, q2, hScr, hl⟩)
                · cases hz
            · cases hz
          · cases hz
        · cases hI
      · split at hI
        · split at hI
          · rename_i h; exact absurd h (by decide)
          · cases hI
        · split at hI
          · cases hI
            simp [zgr] at hg
          · cases hI
  case getfield j =>
    simp only [trI] at hI
    cases hr : lkF (mCls M) j with
    | none => rw [hr] at hI; cases hI
    | some r =>
      rw [hr] at hI
      simp only [Option.bind_some, gOp] at hI
      repeat' split at hI
      all_goals first | cases hI | skip
      all_goals first | omega | (simp [zgr] at hg; done)
  case putfield j =>
    simp only [trI] at hI
    cases hr : lkF (mCls M) j with
    | none => rw [hr] at hI; cases hI
    | some r =>
      rw [hr] at hI
      simp only [Option.bind_some, pOp] at hI
      repeat' split at hI
      all_goals first | cases hI | skip
      all_goals first | omega | (simp [zgr] at hg; done)
  case invokespecial j =>
    simp only [trI, mOp] at hI
    cases hr : lkM (mCls M) j with
    | none => rw [hr] at hI; cases hI
    | some r =>
      rw [hr] at hI
      simp only [Option.bind_some] at hI
      repeat' split at hI
      all_goals first | cases hI | skip
      all_goals first | omega | (simp [zgr] at hg; done)
  case invokevirtual j =>
    simp only [trI, mOp] at hI
    cases hr : lkM (mCls M) j with
    | none => rw [hr] at hI; cases hI
    | some r =>
      rw [hr] at hI
      simp only [Option.bind_some] at hI
      repeat' split at hI
      all_goals first | cases hI | skip
      all_goals first | omega | (simp [zgr] at hg; done)
  case ldc j =>
    simp only [trI] at hI
    cases hr : lkI (mCls M) j with
    | none => rw [hr] at hI; cases hI
    | some r => rw [hr] at hI; cases hI; simp [zgr] at hg
  case ldc_w j =>
    simp only [trI] at hI
    cases hr : lkI (mCls M) j with
    | none => rw [hr] at hI; cases hI
    | some r => rw [hr] at hI; cases hI; simp [zgr] at hg
  case ldc2_w j =>
    simp only [trI] at hI
    cases hr : lkJ (mCls M) j with
    | none => rw [hr] at hI; cases hI
    | some r => rw [hr] at hI; cases hI; simp [zgr] at hg
  case getstatic j =>
    simp only [trI] at hI
    cases hr : lkS (mCls M) j with
    | none => rw [hr] at hI; cases hI
    | some r => rw [hr] at hI; cases hI; simp [zgr] at hg
  case tableswitch d lo hi offs =>
    simp only [trI] at hI
    cases hr : lkW (mCls M) pc with
    | none => rw [hr] at hI; cases hI
    | some r =>
      rw [hr] at hI
      simp only [Option.bind_some] at hI
      split at hI
      · cases hI; simp [zgr] at hg
      · cases hI
  case ifCond kd off => simp only [trI] at hI; obtain ⟨hI, -⟩ := ztgt hI; subst hI; simp [zgr] at hg
  case if_icmp kd off => simp only [trI] at hI; obtain ⟨hI, -⟩ := ztgt hI; subst hI; simp [zgr] at hg
  case if_acmp kd off => simp only [trI] at hI; obtain ⟨hI, -⟩ := ztgt hI; subst hI; simp [zgr] at hg
  case ifnull off => simp only [trI] at hI; obtain ⟨hI, -⟩ := ztgt hI; subst hI; simp [zgr] at hg
  case ifnonnull off => simp only [trI] at hI; obtain ⟨hI, -⟩ := ztgt hI; subst hI; simp [zgr] at hg
  case goto off => simp only [trI] at hI; obtain ⟨hI, -⟩ := ztgt hI; subst hI; simp [zgr] at hg
  all_goals first | (simp only [trI] at hI; cases hI; done) | (simp only [trI, Option.some.injEq] at hI; subst hI; simp [zgr] at hg)
end ZT4
