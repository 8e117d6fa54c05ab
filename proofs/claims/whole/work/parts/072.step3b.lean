/-! .. the step itself, of rows and new objects -/
section ZT4
variable {dC : Nat → ClassId} {dI : Nat → Nat → Nat} {dA : Nat → ClassId} {B L : Nat} {xs : Nat → Int32} {sa : Nat → Nat}
variable {p : Program} {l : Launch} {e : Env} {R : Room} {s : State} {m : MethodId} {args : Array Value} {below : List Frame} {meth : Method} {c : Code} {Q : State → Prop}
theorem zix_L {w : Wd} (h : zScr L xs w) : ix (wI w 1003 0) = L := by
  unfold ix
  rw [h.2.1]
  exact Int32.toNatClampNeg_ofNat_of_lt h.2.2
theorem ib_nn {i : Int32} {n : Nat} (h : ib i n = true) : ix i < n := by
  simp only [ib, Bool.and_eq_true, decide_eq_true_eq] at h
  exact h.2
set_option maxHeartbeats 2000000 in
theorem zstep3 {M : Mth} (hM : zchk M = true) (C : zCtx dC dI dA B L xs sa M p s m args meth c R) {cf sf : Nat → Nat} {a b : Cfg} {op : Op4} {npc : Nat} (ho : opAt (mCode M) a.1 = some (op, npc)) (hz : zst' M op npc a.2.1 a.2.2.1 a.2.2.2 = some b) (hg : zgr op.1 = 3)
    {n0 : Nat} (hn0 : n0 ≤ wn a.2.2.2) (hcf : ∀ n, n0 ≤ n → cf (n + 1) = cf n + 1 ∧ sf (n + 1) = sf n + (zsh n).2) (hex : ∀ n, n0 ≤ n → n < zK → s.heap.size + cf n ≤ B + n) (hcap : cf (wn b.2.2.2) ≤ R.cells ∧ sf (wn b.2.2.2) ≤ R.slots)
    (k : zWk dC dI dA B L xs sa M p l e R s m args below meth c cf sf Q b) : zWk dC dI dA B L xs sa M p l e R s m args below meth c cf sf Q a := by
  obtain ⟨i, len, hd, hln, hn, hI⟩ := zdec_op hM ho
  obtain ⟨hx, hb, hml, hown, hts, hini, hK, hS, hN, hB, hfr, hlo, hc15⟩ := C
  obtain ⟨pc, lv, st, w⟩ := a
  intro H locs ls hA
  obtain ⟨hP, hSS, hScr, hl⟩ := hA
  dsimp only at hP hSS hScr hl ho hz hI hd hn hn0 ⊢
  subst hn
  have hlow := zhp_low hP hSS hB
  cases i
  case iaload =>
    have hln := Nat.eq_of_beq_eq_true hln; subst hln
    simp only [trI, Option.some.injEq] at hI; subst hI
    simp only [zst', zgr, zs3] at hz
    split at hz
    · rename_i i o r
      split at hz
      · rename_i h1000
        split at hz
        · rename_i hi
          cases hz
          subst h1000
          rw [zix_L hScr] at hi
          exact va_ti hx hb hS.2.2.2.2.2.2.1 hSS (ib_vp hi) (v := .int (wI w 1000 (ix i))) (by show Value.int (xs _) = _; rw [hScr.1]) hd (k H locs ls ⟨hP, hSS, hScr, hl⟩)
        · cases hz
      · split at hz
        · rename_i hc
          cases hz
          obtain ⟨ho1, ho2⟩ := zobj_iff hc.1
          show W p l e R s m args below meth c H locs _ _ Q (F0 m pc ls (.int i :: .ref (zad B sa o) :: r.map (ztr B sa)))
          rw [zad_own (Nat.lt_of_lt_of_le ho1 hP.2)]
          exact va_iald hx hb hK hP.1 o 0 (by rw [zws_get ho1, zcell_int ho2 (Or.inl rfl)]) rfl (ib_vp hc.2) hd (k H locs ls ⟨hP, hSS, hScr, hl⟩)
        · cases hz
    · cases hz
  case laload =>
    have hln := Nat.eq_of_beq_eq_true hln; subst hln
    simp only [trI, Option.some.injEq] at hI; subst hI
    simp only [zst', zgr, zs3] at hz
    split at hz
    · rename_i i o r
      split at hz
      · rename_i hc
        cases hz
        obtain ⟨ho1, ho2⟩ := zobj_iff hc.1
        show W p l e R s m args below meth c H locs _ _ Q (F0 m pc ls (.int i :: .ref (zad B sa o) :: r.map (ztr B sa)))
        rw [zad_own (Nat.lt_of_lt_of_le ho1 hP.2)]
        exact va_lald hx hb hK hP.1 o 1 (by rw [zws_get ho1, zcell_long ho2]) rfl (ib_vp hc.2) hd (k H locs ls ⟨hP, hSS, hScr, hl⟩)
      · cases hz
    · cases hz
  case baload =>
    have hln := Nat.eq_of_beq_eq_true hln; subst hln
    simp only [trI, Option.some.injEq] at hI; subst hI
    simp only [zst', zgr, zs3] at hz
    split at hz
    · rename_i i o r
      split at hz
      · rename_i hc
        cases hz
        show W p l e R s m args below meth c H locs _ _ Q (F0 m pc ls (.int i :: .ref (zad B sa o) :: r.map (ztr B sa)))
        rcases hc.1 with h | h
        · obtain ⟨ho1, ho2⟩ := zobj_iff h
          rw [zad_own (Nat.lt_of_lt_of_le ho1 hP.2)]
          exact va_bald hx hb hK hP.1 o 2 (by rw [zws_get ho1, zcell_int ho2 (Or.inr (Or.inl rfl))]) rfl (ib_vp hc.2) hd (k H locs ls ⟨hP, hSS, hScr, hl⟩)
        · obtain ⟨ho1, ho2⟩ := zobj_iff h
          rw [zad_own (Nat.lt_of_lt_of_le ho1 hP.2)]
          exact va_zald hx hb hK hP.1 o 3 (by rw [zws_get ho1, zcell_int ho2 (Or.inr (Or.inr rfl))]) rfl (ib_vp hc.2) hd (k H locs ls ⟨hP, hSS, hScr, hl⟩)
      · cases hz
    · cases hz
  case aaload =>
    have hln := Nat.eq_of_beq_eq_true hln; subst hln
    simp only [trI, Option.some.injEq] at hI; subst hI
    simp only [zst', zgr, zs3] at hz
    split at hz
    · rename_i i o r
      split at hz
      · rename_i h1001
        split at hz
        · rename_i hi
          cases hz
          subst h1001
          exact vb_tq hx hb hS.2.1 hSS (ib_vp hi) (v := ztr B sa (.ref (1010 + ix i))) (by show Value.ref (sa _) = .ref (zad B sa _); rw [zad_word (by omega), show 10 + (1010 + ix i - 1010) = 10 + ix i by omega]) hd (k H locs ls ⟨hP, hSS, hScr, hl⟩)
        · cases hz
      · split at hz
        · rename_i hc
          cases hz
          have k' := k H locs ls ⟨hP, hSS, hScr, hl⟩
          simp only [List.map_cons, ztr_rf] at k'
          show W p l e R s m args below meth c H locs _ _ Q (F0 m pc ls (.int i :: .ref (zad B sa o) :: r.map (ztr B sa)))
          rcases hc.1 with h | h | h
          · obtain ⟨ho1, ho2⟩ := zobj_iff h
            rw [zad_own (Nat.lt_of_lt_of_le ho1 hP.2)]
            exact va_aldq hx hb hK hP.1 o 4 (by rw [zws_get ho1, zcell_ref ho2 (by decide)]) rfl (ib_vp hc.2) hd k'
          · obtain ⟨ho1, ho2⟩ := zobj_iff h
            rw [zad_own (Nat.lt_of_lt_of_le ho1 hP.2)]
            exact va_aldq hx hb hK hP.1 o 5 (by rw [zws_get ho1, zcell_ref ho2 (by decide)]) rfl (ib_vp hc.2) hd k'
          · obtain ⟨ho1, ho2⟩ := zobj_iff h
            rw [zad_own (Nat.lt_of_lt_of_le ho1 hP.2)]
            exact va_aldq hx hb hK hP.1 o 6 (by rw [zws_get ho1, zcell_ref ho2 (by decide)]) rfl (ib_vp hc.2) hd k'
        · cases hz
    · cases hz
  case iastore =>
    have hln := Nat.eq_of_beq_eq_true hln; subst hln
    simp only [trI, Option.some.injEq] at hI; subst hI
    simp only [zst', zgr, zs3] at hz
    split at hz
    · rename_i x i o r
      split at hz
      · rename_i hc
        cases hz
        obtain ⟨ho1, ho2⟩ := zobj_iff hc.1
        show W p l e R s m args below meth c H locs _ _ Q (F0 m pc ls (.int x :: .int i :: .ref (zad B sa o) :: r.map (ztr B sa)))
        rw [zad_own (Nat.lt_of_lt_of_le ho1 hP.2)]
        exact va_iast hx hb hK hP.1 (zD w) hSS o 0 (by rw [zws_get ho1, zcell_int ho2 (Or.inl rfl)]) rfl (ib_vp hc.2) hd (fun H1 locs1 q1 _ q2 => k H1 locs1 ls ⟨⟨by rw [zset_i ho1 ho2 (Or.inl rfl)] at q1; exact q1, hP.2⟩, q2, zscr_sI hScr _ (Nat.lt_of_lt_of_le ho1 hP.2), hl⟩)
      · cases hz
    · cases hz
  case lastore =>
    have hln := Nat.eq_of_beq_eq_true hln; subst hln
    simp only [trI, Option.some.injEq] at hI; subst hI
    simp only [zst', zgr, zs3] at hz
    split at hz
    · rename_i x i o r
      split at hz
      · rename_i hc
        cases hz
        obtain ⟨ho1, ho2⟩ := zobj_iff hc.1
        show W p l e R s m args below meth c H locs _ _ Q (F0 m pc ls (.long x :: .int i :: .ref (zad B sa o) :: r.map (ztr B sa)))
        rw [zad_own (Nat.lt_of_lt_of_le ho1 hP.2)]
        exact va_last hx hb hK hP.1 (zD w) hSS o 1 (by rw [zws_get ho1, zcell_long ho2]) rfl (ib_vp hc.2) hd (fun H1 locs1 q1 _ q2 => k H1 locs1 ls ⟨⟨by rw [zset_l ho1 ho2] at q1; exact q1, hP.2⟩, q2, hScr, hl⟩)
      · cases hz
    · cases hz
  case bastore =>
    have hln := Nat.eq_of_beq_eq_true hln; subst hln
    simp only [trI, Option.some.injEq] at hI; subst hI
    simp only [zst', zgr, zs3] at hz
    split at hz
    · rename_i x i o r
      split at hz
      · rename_i hc
        cases hz
        obtain ⟨ho1, ho2⟩ := zobj_iff hc.1
        show W p l e R s m args below meth c H locs _ _ Q (F0 m pc ls (.int x :: .int i :: .ref (zad B sa o) :: r.map (ztr B sa)))
        rw [zad_own (Nat.lt_of_lt_of_le ho1 hP.2)]
        exact va_bast hx hb hK hP.1 (zD w) hSS o 2 (by rw [zws_get ho1, zcell_int ho2 (Or.inr (Or.inl rfl))]) rfl (ib_vp hc.2) hd (fun H1 locs1 q1 _ q2 => k H1 locs1 ls ⟨⟨by rw [zset_i ho1 ho2 (Or.inr (Or.inl rfl))] at q1; exact q1, hP.2⟩, q2, zscr_sI hScr _ (Nat.lt_of_lt_of_le ho1 hP.2), hl⟩)
      · split at hz
        · rename_i hc
          cases hz
          obtain ⟨ho1, ho2⟩ := zobj_iff hc.1
          show W p l e R s m args below meth c H locs _ _ Q (F0 m pc ls (.int x :: .int i :: .ref (zad B sa o) :: r.map (ztr B sa)))
          rw [zad_own (Nat.lt_of_lt_of_le ho1 hP.2)]
          exact va_zast hx hb hK hP.1 (zD w) hSS o 3 (by rw [zws_get ho1, zcell_int ho2 (Or.inr (Or.inr rfl))]) rfl (ib_vp hc.2) hd (fun H1 locs1 q1 _ q2 => k H1 locs1 ls ⟨⟨by rw [zset_i ho1 ho2 (Or.inr (Or.inr rfl))] at q1; exact q1, hP.2⟩, q2, zscr_sI hScr _ (Nat.lt_of_lt_of_le ho1 hP.2), hl⟩)
        · cases hz
    · cases hz
  case aastore =>
    have hln := Nat.eq_of_beq_eq_true hln; subst hln
    simp only [trI, Option.some.injEq] at hI; subst hI
    simp only [zst', zgr, zs3] at hz
    split at hz
    · rename_i x i o r
      split at hz
      · rename_i hc
        cases hz
        show W p l e R s m args below meth c H locs _ _ Q (F0 m pc ls (.ref (zad B sa x) :: .int i :: .ref (zad B sa o) :: r.map (ztr B sa)))
        rcases hc.1 with h | h | h
        · obtain ⟨ho1, ho2⟩ := zobj_iff h.1
          obtain ⟨hq1, hq2⟩ := zobj_iff h.2
          have hxq := zad_own (B := B) (sa := sa) (Nat.lt_of_lt_of_le hq1 hP.2)
          rw [zad_own (Nat.lt_of_lt_of_le ho1 hP.2), hxq]
          exact va_astq hx hb hK hP.1 (zD w) hSS o 4 x 1 (r := (zC 1, zT 1, zN 1)) (by rw [zws_get ho1, zcell_ref ho2 (by decide)]) rfl (by rw [zws_get hq1, zcell_obj (Nat.lt_of_lt_of_le hq1 hP.2) hq2 (by decide)]) (zcl_get (by decide)) (ib_vp hc.2) hd (fun H1 locs1 q1 _ q2 => k H1 locs1 ls ⟨⟨by rw [← hxq] at q1; rw [zset_q ho1 ho2 (by decide)] at q1; exact q1, hP.2⟩, q2, hScr, hl⟩)
        · obtain ⟨ho1, ho2⟩ := zobj_iff h.1
          obtain ⟨hq1, hq2⟩ := zobj_iff h.2
          have hxq := zad_own (B := B) (sa := sa) (Nat.lt_of_lt_of_le hq1 hP.2)
          rw [zad_own (Nat.lt_of_lt_of_le ho1 hP.2), hxq]
          exact va_astq hx hb hK hP.1 (zD w) hSS o 5 x 5 (r := (zC 5, zT 5, zN 5)) (by rw [zws_get ho1, zcell_ref ho2 (by decide)]) rfl (by rw [zws_get hq1, zcell_obj (Nat.lt_of_lt_of_le hq1 hP.2) hq2 (by decide)]) (zcl_get (by decide)) (ib_vp hc.2) hd (fun H1 locs1 q1 _ q2 => k H1 locs1 ls ⟨⟨by rw [← hxq] at q1; rw [zset_q ho1 ho2 (by decide)] at q1; exact q1, hP.2⟩, q2, hScr, hl⟩)
        · obtain ⟨ho1, ho2⟩ := zobj_iff h.1
          obtain ⟨hq1, hq2⟩ := zobj_iff h.2
          have hxq := zad_own (B := B) (sa := sa) (Nat.lt_of_lt_of_le hq1 hP.2)
          rw [zad_own (Nat.lt_of_lt_of_le ho1 hP.2), hxq]
          exact va_astq hx hb hK hP.1 (zD w) hSS o 6 x 6 (r := (zC 6, zT 6, zN 6)) (by rw [zws_get ho1, zcell_ref ho2 (by decide)]) rfl (by rw [zws_get hq1, zcell_obj (Nat.lt_of_lt_of_le hq1 hP.2) hq2 (by decide)]) (zcl_get (by decide)) (ib_vp hc.2) hd (fun H1 locs1 q1 _ q2 => k H1 locs1 ls ⟨⟨by rw [← hxq] at q1; rw [zset_q ho1 ho2 (by decide)] at q1; exact q1, hP.2⟩, q2, hScr, hl⟩)
      · cases hz
    · cases hz
  case arraylength =>
    have hln := Nat.eq_of_beq_eq_true hln; subst hln
    simp only [trI, Option.some.injEq] at hI; subst hI
    simp only [zst', zgr, zs3] at hz
    split at hz
    · rename_i o r
      split at hz
      · rename_i h1000
        cases hz
        subst h1000
        exact va_tlen hx hb hS.2.2.2.2.2.2.1 hSS (v := wI w 1003 0) (by rw [hScr.2.1]) hd (k H locs ls ⟨hP, hSS, hScr, hl⟩)
      · split at hz
        · rename_i h1001
          cases hz
          subst h1001
          exact va_tlen hx hb hS.2.1 hSS (v := 20) (by decide) hd (k H locs ls ⟨hP, hSS, hScr, hl⟩)
        · cases hz
    · cases hz
  case new j =>
    have hln := Nat.eq_of_beq_eq_true hln; subst hln
    simp only [trI] at hI
    cases hr : lkC (mCls M) j with
    | none => rw [hr] at hI; cases hI
    | some r =>
      rw [hr] at hI
      cases hI
      obtain ⟨h1, h2, h3⟩ := lkC_ok hr
      obtain ⟨h4, h5⟩ := zcls_ok r h1
      rw [h2, h3] at h4 h5
      obtain ⟨rc, rj, ci, rp⟩ := r
      dsimp only at h4 h5 h2 h3
      simp only [zst', zgr, zs3] at hz
      split at hz
      · rename_i hc
        obtain ⟨c1, c2, c3⟩ := hc
        cases hz
        obtain ⟨f1, f2⟩ := hcf (wn w) hn0
        have hh := hex (wn w) hn0 c1
        have hcap1 : cf (wn w) + 1 ≤ R.cells := by have := hcap.1; rw [← f1]; exact this
        have hcap2 : sf (wn w) + (zsh (wn w)).2 ≤ R.slots := by have := hcap.2; rw [← f2]; exact this
        have hN1 : (zsh (wn w)).2 = zN ci := by rw [zsh_obj _ c1 (by rw [c2]; exact c3), c2]
        rw [hN1] at hcap2
        have hw1 : (Jvm.Cond.classLink (zC (mCls M)) j (zC ci)).before args s = true := zwd_b hts h4 h5
        have hw2 : (Jvm.Cond.instantiable (zC ci) (zN ci)).before args s = true := zwd_b hts (zinst ci c3).1 (zinst ci c3).2
        have hw3 : (Jvm.Cond.initialized (zC ci)).before args s = true := zwd_b hts (zinit ci (by omega)).1 (zinit ci (by omega)).2
        have hKn := hK.1 ci _ (zcl_get c3)
        have hz1 : ztr B sa (.ref (wn w)) = .ref (B + wn w) := by show Value.ref (zad B sa _) = _; rw [zad_own c1]
        have e2 : cf (wn (alc w)) = cf (wn w) + 1 := f1
        have e3 : sf (wn (alc w)) = sf (wn w) + zN ci := by rw [← hN1]; exact f2
        have key : H.size = B + wn w → W p l e R s m args below meth c H locs (cf (wn w)) (sf (wn w)) Q (F0 m pc ls (st.map (ztr B sa))) := by
          intro hsz
          refine W.newcK (C := zC ci) (n := zN ci) (index := j) (h := B + wn w) (cC := dC ci) hx hb hown hw1 hw2 hw3 rfl hd hcap1 hcap2 hKn.2.1 hsz (fun H1 kC hkC e1 z1 o1 => ?_)
          obtain ⟨g1, g2⟩ := zhp_new (dC := dC) (dI := dI) hP hSS hB (z := zcell dA B sa (alc w) (wn w)) rfl hsz c1 (by
            rw [zcell_obj c1 c2 c3]
            refine ⟨_, zcl_get c3, (u_born (zTy ci) hts (zlay _ c3) hKn hkC e1 (zty_ok _ c3)).to (fun q hq => ?_)⟩
            have hq' : q < zN ci := hq
            have hv := zdef_val _ c3 q hq'
            show defaultValue (zTy ci q) = ((List.range (zN ci)).map _).getD q .null
            rw [List.getD_eq_getElem?_getD, List.getElem?_map, List.getElem?_range hq']
            simp only [Option.map_some, Option.getD_some]
            split at hv
            · rename_i hty; rw [hty, hv]; simp [zfv, zalc_R, defaultValue, va_rf, ztr]
            · rename_i hty; rw [hty, hv]; simp [zfv, zalc_R, defaultValue, va_rf, ztr]
            · rename_i hty; rw [hty, hv]; simp [zfv, zalc_L, defaultValue, ztr]
            · rename_i hty; rw [hty, hv]; simp [zfv, zalc_I, defaultValue, ztr]
            · rename_i hty; rw [hty, hv]; simp [zfv, zalc_I, defaultValue, ztr]
            · cases hv) (by omega) (fun q hq => o1 q (by omega))
          have k' := k H1 locs ls ⟨g1, g2, zscr_alc hScr (Nat.lt_trans c1 (by decide)), hl⟩
          dsimp only at k'
          rw [List.map_cons, hz1, e2, e3] at k'
          exact k'
        intro T hT X
        refine key ?_ T hT X
        have q := X.heapSize
        rw [hT] at q
        omega
      · cases hz
  case newarray at0 =>
    sorry
  case anewarray j =>
    sorry
  case invokestatic j =>
    sorry
  all_goals sorry
end ZT4
