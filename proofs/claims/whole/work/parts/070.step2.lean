/-! .. fields -/
section ZT2
variable {dC : Nat → ClassId} {dI : Nat → Nat → Nat} {dA : Nat → ClassId} {B L : Nat} {xs : Nat → Int32} {sa : Nat → Nat}
variable {p : Program} {l : Launch} {e : Env} {R : Room} {s : State} {m : MethodId} {args : Array Value} {below : List Frame} {meth : Method} {c : Code} {Q : State → Prop}
theorem zfk_ty : ∀ c, c < 11 → ∀ k, k < zN c → (zFk c k = 0 → zTy c k = .int ∨ zTy c k = .boolean) ∧ (zFk c k = 1 → zTy c k = .long) ∧ (zFk c k = 2 → (match zTy c k with
    | .object _ => true
    | .array _ => true
    | _ => false) = true) := by decide +kernel
theorem zw20 {o : Nat} (h1 : 1010 ≤ o) (h2 : o < 1030) : o - 1010 < 20 := by omega
theorem zput_w {M : Mth} (hx : p.tables.exec = Jvm.exec) (hb : c.code = zby (mNum M)) (hown : s.vm.findClass (zC (mCls M)) = some m.cls) (hts : ∀ w ∈ zWS, w.before args s = true) (hini : zini.contains (mNum M) = true → meth.name = "<init>") (hK : va_K (dC, dI) zcl (ztys dA) s)
    {w w' : Wd} {H : Heap} {locs : List Loc} (hP : zHp dC dI dA B sa w H) (hSS : va_S (zA B) s.heap H locs) {o ci kf j : Nat} (ho : o < wn w) (hs : (zsh o).1 = ci) (hci : ci < 11) (hk : kf < zN ci) (hdecl : (zT ci kf).1 = zC ci)
    (hlink : (Jvm.Cond.fieldLink (zC (mCls M)) j (zC ci) (zT ci kf).2.1 (zT ci kf).2.2.1).before args s = true) (hpf : zpf M ci kf = true) {v : Value} (hn : narrow (zTy ci kf) v = v) (hfit : fits (zTy ci kf) v = true)
    (hw : wn w' = wn w) (hrow : ∀ i, i ≠ o → wI w' i = wI w i ∧ wL w' i = wL w i ∧ wR w' i = wR w i) (hv : ztr B sa (zfv (zFk ci kf) w' o kf) = v) (hov : ∀ i, i ≠ kf → ztr B sa (zfv (zFk ci i) w' o i) = ztr B sa (zfv (zFk ci i) w o i))
    {pc cells slots : Nat} {ls : Array Slot} {rest : List Value} (hd : decode (zby (mNum M)) pc = .ok (.putfield j, 3))
    (kk : ∀ (H1 : Heap) (locs1 : List Loc), zHp dC dI dA B sa w' H1 → va_S (zA B) s.heap H1 locs1 → W p l e R s m args below meth c H1 locs1 cells slots Q (F0 m (pc + 3) ls rest)) :
    W p l e R s m args below meth c H locs cells slots Q (F0 m pc ls (v :: .ref (zad B sa o) :: rest)) := by
  have h192 : o < 192 := Nat.lt_of_lt_of_le ho hP.2
  rw [zad_own h192]
  have he : (zws dA B sa w)[o]? = some (B + o, .inr (ci, (List.range (zN ci)).map (fun i => ztr B sa (zfv (zFk ci i) w o i)))) := by
    rw [zws_get ho, zcell_obj h192 hs hci]
  have hset : (zws dA B sa w).set o (B + o, .inr (ci, ((List.range (zN ci)).map (fun i => ztr B sa (zfv (zFk ci i) w o i))).set kf v)) = zws dA B sa w' := by
    rw [← zfld_set h192 hs hci hv hov]
    exact zws_set hw ho hrow
  have hd2 := zty_ok ci hci kf hk
  have hcl := zcl_get hci
  have hl : kf < ((List.range (zN ci)).map (fun i => ztr B sa (zfv (zFk ci i) w o i))).length := by simpa using hk
  have hsame : ∀ x, s.fieldFound? (zT ci kf).1 (zT ci kf).2.1 (zT ci kf).2.2.1 = some x → s.fieldFound? (zC ci) (zT ci kf).2.1 (zT ci kf).2.2.1 = some x := fun x h => by rw [hdecl] at h; exact h
  have fin : ∀ (H1 : Heap) (locs1 : List Loc), va_P (dC, dI) zcl ((zws dA B sa w).set o (B + o, .inr (ci, ((List.range (zN ci)).map (fun i => ztr B sa (zfv (zFk ci i) w o i))).set kf v))) H1 → va_S (zA B) s.heap H1 locs1 → W p l e R s m args below meth c H1 locs1 cells slots Q (F0 m (pc + 3) ls rest) := by
    intro H1 locs1 g1 g2
    rw [hset] at g1
    exact kk H1 locs1 ⟨g1, by rw [hw]; exact hP.2⟩ g2
  cases hf : (zT ci kf).2.2.2 with
  | false => exact va_put hx hb hts (zlay ci hci) (zTy ci) (zty_ok ci hci) (znm_ok ci hci) hown hK hP.1 (zD w) hSS o he hcl kf hk hlink hsame hf hd2 hn hfit hl hd (fun H1 locs1 g1 _ g2 => fin H1 locs1 g1 g2)
  | true =>
    unfold zpf at hpf
    rw [hf] at hpf
    simp only [Bool.not_true, Bool.false_or, Bool.and_eq_true] at hpf
    have h5 := Nat.eq_of_beq_eq_true hpf.2
    exact va_putF hx hb hts (zlay ci hci) (zTy ci) (zty_ok ci hci) (znm_ok ci hci) hown hK hP.1 (zD w) hSS o he hcl kf hk hlink hsame hf (hini hpf.1) (by rw [hdecl, h5]) hd2 hn hfit hl hd (fun H1 locs1 g1 _ g2 => fin H1 locs1 g1 g2)
theorem zfv_sI {kd : Nat} (w : Wd) (o k : Nat) (x : Int32) (i : Nat) (h : i ≠ k) : zfv kd (sI w o k x) o i = zfv kd w o i := by
  unfold zfv
  simp [wI_sI, wL_sI, wR_sI, h]
theorem zfv_sL {kd : Nat} (w : Wd) (o k : Nat) (x : Int64) (i : Nat) (h : i ≠ k) : zfv kd (sL w o k x) o i = zfv kd w o i := by
  unfold zfv
  simp [wI_sL, wL_sL, show wR (sL w o k x) = wR w from rfl, h]
theorem zfv_sR {kd : Nat} (w : Wd) (o k : Nat) (x : Option Nat) (i : Nat) (h : i ≠ k) : zfv kd (sR w o k x) o i = zfv kd w o i := by
  unfold zfv
  simp [wI_sR, wL_sR, wR_sR, h]
theorem zrow_sI (w : Wd) (o k : Nat) (x : Int32) (i : Nat) (h : i ≠ o) : wI (sI w o k x) i = wI w i ∧ wL (sI w o k x) i = wL w i ∧ wR (sI w o k x) i = wR w i := ⟨by funext b; simp [wI_sI, h], rfl, rfl⟩
theorem zrow_sL (w : Wd) (o k : Nat) (x : Int64) (i : Nat) (h : i ≠ o) : wI (sL w o k x) i = wI w i ∧ wL (sL w o k x) i = wL w i ∧ wR (sL w o k x) i = wR w i := ⟨rfl, by funext b; simp [wL_sL, h], rfl⟩
theorem zrow_sR (w : Wd) (o k : Nat) (x : Option Nat) (i : Nat) (h : i ≠ o) : wI (sR w o k x) i = wI w i ∧ wL (sR w o k x) i = wL w i ∧ wR (sR w o k x) i = wR w i := ⟨rfl, rfl, by funext b; simp [wR_sR, h]⟩
theorem zscr_sI {w : Wd} (h : zScr L xs w) {o k : Nat} (x : Int32) (ho : o < 192) : zScr L xs (sI w o k x) := ⟨fun j => by rw [wI_sI, if_neg (by omega)]; exact h.1 j, by rw [wI_sI, if_neg (by omega)]; exact h.2.1, h.2.2⟩
theorem zput_i {x : Int32} {ci kf : Nat} (hci : ci < 11) (hk : kf < zN ci) (h0 : zFk ci kf = 0) (hb : zTy ci kf = .boolean → x = 0 ∨ x = 1) : narrow (zTy ci kf) (.int x) = .int x ∧ fits (zTy ci kf) (.int x) = true := by
  rcases (zfk_ty ci hci kf hk).1 h0 with h | h
  · rw [h]; exact ⟨rfl, rfl⟩
  · rcases hb h with q | q <;> subst q <;> rw [h] <;> exact ⟨by decide +kernel, by decide +kernel⟩
theorem zput_l {x : Int64} {ci kf : Nat} (hci : ci < 11) (hk : kf < zN ci) (h0 : zFk ci kf = 1) : narrow (zTy ci kf) (.long x) = .long x ∧ fits (zTy ci kf) (.long x) = true := by
  rw [(zfk_ty ci hci kf hk).2.1 h0]; exact ⟨rfl, rfl⟩
theorem zput_r {x : Option Nat} {ci kf : Nat} (hci : ci < 11) (hk : kf < zN ci) (h0 : zFk ci kf = 2) : narrow (zTy ci kf) (va_rf x) = va_rf x ∧ fits (zTy ci kf) (va_rf x) = true := by
  have h := (zfk_ty ci hci kf hk).2.2 h0
  split at h
  · rename_i q; rw [q]; cases x <;> exact ⟨rfl, rfl⟩
  · rename_i q; rw [q]; cases x <;> exact ⟨rfl, rfl⟩
  · cases h
set_option maxHeartbeats 1000000 in
theorem zstep2 {M : Mth} (hM : zchk M = true) (C : zCtx dC dI dA B L xs sa M p s m args meth c R) {cf sf : Nat → Nat} {a b : Cfg} {op : Op4} {npc : Nat} (ho : opAt (mCode M) a.1 = some (op, npc)) (hz : zst' M op npc a.2.1 a.2.2.1 a.2.2.2 = some b) (hg : zgr op.1 = 2)
    (k : zWk dC dI dA B L xs sa M p l e R s m args below meth c cf sf Q b) : zWk dC dI dA B L xs sa M p l e R s m args below meth c cf sf Q a := by
  obtain ⟨i, len, hd, hln, hn, hI⟩ := zdec_op hM ho
  obtain ⟨hx, hb, hml, hown, hts, hini, hK, hS, hN, hB, hfr, hlo, hc15⟩ := C
  obtain ⟨pc, lv, st, w⟩ := a
  intro H locs ls hA
  obtain ⟨hP, hSS, hScr, hl⟩ := hA
  dsimp only at hP hSS hScr hl ho hz hI hd hn ⊢
  subst hn
  cases i
  case getfield j =>
    have hln := Nat.eq_of_beq_eq_true hln; subst hln
    simp only [trI] at hI
    cases hr : lkF (mCls M) j with
    | none => rw [hr] at hI; cases hI
    | some r =>
      rw [hr] at hI
      obtain ⟨h1, h2, h3⟩ := lkF_ok hr
      obtain ⟨h4, h5, -, h6⟩ := zfl_ok _ hc15 r h1
      have hlink := zwd_b hts h4 h5
      unfold zfw at hlink
      rw [h2, h3] at hlink
      obtain ⟨rc, rj, ci, kf, rp, rn⟩ := r
      dsimp only at h6 hlink h2 h3
      simp only [Option.bind_some, gOp] at hI
      split at hI
      · rename_i h11
        subst h11
        cases hI
        simp only [zst', zgr, zs2] at hz
        split at hz
        · rename_i o r'
          split at hz
          · rename_i hw
            cases hz
            have k' := k H locs ls ⟨hP, hSS, hScr, hl⟩
            have hk3 : kf < 3 := by
              rcases h6 with h6 | h6
              · exact absurd h6.1 (by decide)
              · exact h6.2
            show W p l e R s m args below meth c H locs _ _ Q (F0 m pc ls (.ref (zad B sa o) :: r'.map (ztr B sa)))
            rw [zad_word hw.1]
            have hi20 : o - 1010 < 20 := zw20 hw.1 hw.2
            match kf, hk3, hlink, k' with
            | 0, _, hlink, k' => exact va_getX hx hb (ad := fun i => sa (10 + i)) hS.2.2.2.1 (i := o - 1010) hi20 hSS hown hlink (fun _ h => h) hd k'
            | 1, _, hlink, k' => exact va_getX hx hb (ad := fun i => sa (10 + i)) hS.2.2.2.2.1 (i := o - 1010) hi20 hSS hown hlink (fun _ h => h) hd k'
            | 2, _, hlink, k' => exact va_getX hx hb (ad := fun i => sa (10 + i)) hS.2.2.2.2.2.1 (i := o - 1010) hi20 hSS hown hlink (fun _ h => h) hd k'
          · cases hz
        · cases hz
      · rename_i h11
        rw [if_neg h11] at hlink
        dsimp only at hlink
        rcases h6 with ⟨hci, hk, hdecl⟩ | h6
        · have key : ∀ (o : Nat) (r' : List Value), zobj w o ci = true → W p l e R s m args below meth c H locs (cf (wn w)) (sf (wn w)) Q (F0 m (pc + 3) ls (ztr B sa (zfv (zFk ci kf) w o kf) :: r'.map (ztr B sa))) → W p l e R s m args below meth c H locs (cf (wn w)) (sf (wn w)) Q (F0 m pc ls (.ref (zad B sa o) :: r'.map (ztr B sa))) := by
            intro o r' hob k'
            obtain ⟨ho1, ho2⟩ := zobj_iff hob
            have h192 : o < 192 := Nat.lt_of_lt_of_le ho1 hP.2
            rw [zad_own h192]
            have he : (zws dA B sa w)[o]? = some (B + o, .inr (ci, (List.range (zN ci)).map (fun i => ztr B sa (zfv (zFk ci i) w o i)))) := by
              rw [zws_get ho1, zcell_obj h192 ho2 hci]
            exact va_get hx hb hts (zlay ci hci) hown hK hP.1 o he (zcl_get hci) kf hk hlink (fun x h => by rw [hdecl] at h; exact h) (by rw [List.getElem?_map, List.getElem?_range hk]; rfl) hd k'
          split at hI
          · rename_i h0
            cases hI
            simp only [zst', zgr, zs2] at hz
            split at hz
            · rename_i o r'
              split at hz
              · rename_i hob
                cases hz
                exact key o r' hob (by rw [h0]; exact k H locs ls ⟨hP, hSS, hScr, hl⟩)
              · cases hz
            · cases hz
          · rename_i h0
            cases hI
            simp only [zst', zgr, zs2] at hz
            split at hz
            · rename_i o r'
              split at hz
              · rename_i hob
                cases hz
                exact key o r' hob (by rw [h0]; exact k H locs ls ⟨hP, hSS, hScr, hl⟩)
              · cases hz
            · cases hz
          · rename_i h0
            cases hI
            simp only [zst', zgr, zs2] at hz
            split at hz
            · rename_i o r'
              split at hz
              · rename_i hob
                cases hz
                exact key o r' hob (by rw [h0]; exact k H locs ls ⟨hP, hSS, hScr, hl⟩)
              · cases hz
            · cases hz
          · cases hI
        · exact absurd h6.1 h11
  case putfield j =>
    have hln := Nat.eq_of_beq_eq_true hln; subst hln
    simp only [trI] at hI
    cases hr : lkF (mCls M) j with
    | none => rw [hr] at hI; cases hI
    | some r =>
      rw [hr] at hI
      obtain ⟨h1, h2, h3⟩ := lkF_ok hr
      obtain ⟨h4, h5, -, h6⟩ := zfl_ok _ hc15 r h1
      have hlink := zwd_b hts h4 h5
      unfold zfw at hlink
      rw [h2, h3] at hlink
      obtain ⟨rc, rj, ci, kf, rp, rn⟩ := r
      dsimp only at h6 hlink h2 h3
      simp only [Option.bind_some, pOp] at hI
      split at hI
      · cases hI
      · rename_i h11
        rw [if_neg h11] at hlink
        dsimp only at hlink
        rcases h6 with ⟨hci, hk, hdecl⟩ | h6
        · split at hI
          · rename_i h0
            split at hI
            · rename_i hbool
              cases hI
              simp only [zst', zgr, zs2] at hz
              split at hz
              · rename_i x o r'
                split at hz
                · rename_i hc
                  obtain ⟨hob, hpf, h01⟩ := hc
                  cases hz
                  obtain ⟨ho1, ho2⟩ := zobj_iff hob
                  have h192 : o < 192 := Nat.lt_of_lt_of_le ho1 hP.2
                  obtain ⟨g1, g2⟩ := zput_i hci hk h0 (fun _ => h01)
                  exact zput_w hx hb hown hts hini hK hP hSS ho1 ho2 hci hk hdecl hlink hpf (v := .int x) g1 g2 (w' := sI w o kf x) rfl (zrow_sI w o kf x) (by rw [h0]; simp [zfv, ztr, wI_sI]) (fun i hi => by rw [zfv_sI w o kf x i hi]) hd (fun H1 locs1 q1 q2 => k H1 locs1 ls ⟨q1, q2, zscr_sI hScr x h192, hl⟩)
                · cases hz
              · cases hz
            · rename_i hbool
              cases hI
              simp only [zst', zgr, zs2] at hz
              split at hz
              · rename_i x o r'
                split at hz
                · rename_i hc
                  obtain ⟨hob, hpf⟩ := hc
                  cases hz
                  obtain ⟨ho1, ho2⟩ := zobj_iff hob
                  have h192 : o < 192 := Nat.lt_of_lt_of_le ho1 hP.2
                  obtain ⟨g1, g2⟩ := zput_i (x := x) hci hk h0 (fun h => absurd h hbool)
                  exact zput_w hx hb hown hts hini hK hP hSS ho1 ho2 hci hk hdecl hlink hpf (v := .int x) g1 g2 (w' := sI w o kf x) rfl (zrow_sI w o kf x) (by rw [h0]; simp [zfv, ztr, wI_sI]) (fun i hi => by rw [zfv_sI w o kf x i hi]) hd (fun H1 locs1 q1 q2 => k H1 locs1 ls ⟨q1, q2, zscr_sI hScr x h192, hl⟩)
                · cases hz
              · cases hz
          · rename_i h0
            cases hI
            simp only [zst', zgr, zs2] at hz
            split at hz
            · rename_i x o r'
              split at hz
              · rename_i hc
                obtain ⟨hob, hpf⟩ := hc
                cases hz
                obtain ⟨ho1, ho2⟩ := zobj_iff hob
                obtain ⟨g1, g2⟩ := zput_l (x := x) hci hk h0
                exact zput_w hx hb hown hts hini hK hP hSS ho1 ho2 hci hk hdecl hlink hpf (v := .long x) g1 g2 (w' := sL w o kf x) rfl (zrow_sL w o kf x) (by rw [h0]; simp [zfv, ztr, wL_sL]) (fun i hi => by rw [zfv_sL w o kf x i hi]) hd (fun H1 locs1 q1 q2 => k H1 locs1 ls ⟨q1, q2, hScr, hl⟩)
              · cases hz
            · cases hz
          · rename_i h0
            cases hI
            simp only [zst', zgr, zs2] at hz
            split at hz
            · rename_i v o r'
              split at hz
              · rename_i q hq
                split at hz
                · rename_i hc
                  obtain ⟨hob, hpf⟩ := hc
                  cases hz
                  have hv := zref_rf hq
                  subst hv
                  obtain ⟨ho1, ho2⟩ := zobj_iff hob
                  obtain ⟨g1, g2⟩ := zput_r (x := q.map (zad B sa)) hci hk h0
                  show W p l e R s m args below meth c H locs _ _ Q (F0 m pc ls (ztr B sa (va_rf q) :: .ref (zad B sa o) :: r'.map (ztr B sa)))
                  rw [ztr_rf]
                  exact zput_w hx hb hown hts hini hK hP hSS ho1 ho2 hci hk hdecl hlink hpf (v := va_rf (q.map (zad B sa))) g1 g2 (w' := sR w o kf q) rfl (zrow_sR w o kf q) (by rw [h0, ← ztr_rf]; simp [zfv, wR_sR]) (fun i hi => by rw [zfv_sR w o kf q i hi]) hd (fun H1 locs1 q1 q2 => k H1 locs1 ls ⟨q1, q2, hScr, hl⟩)
                · cases hz
              · cases hz
            · cases hz
          · cases hI
        · exact absurd h6.1 h11
  case invokespecial j =>
    simp only [trI, mOp] at hI
    cases hr : lkM (mCls M) j with
    | none => rw [hr] at hI; cases hI
    | some r =>
      rw [hr] at hI
      simp only [Option.bind_some] at hI
      repeat' split at hI
      all_goals first | cases hI | skip
      all_goals simp [zgr] at hg
  case invokevirtual j =>
    simp only [trI, mOp] at hI
    cases hr : lkM (mCls M) j with
    | none => rw [hr] at hI; cases hI
    | some r =>
      rw [hr] at hI
      simp only [Option.bind_some] at hI
      repeat' split at hI
      all_goals first | cases hI | skip
      all_goals simp [zgr] at hg
  case invokestatic j =>
    simp only [trI, mOp] at hI
    cases hr : lkM (mCls M) j with
    | none => rw [hr] at hI; cases hI
    | some r =>
      rw [hr] at hI
      simp only [Option.bind_some] at hI
      repeat' split at hI
      all_goals first | cases hI | skip
      all_goals simp [zgr] at hg
  case new j =>
    simp only [trI] at hI
    cases hr : lkC (mCls M) j with
    | none => rw [hr] at hI; cases hI
    | some r => rw [hr] at hI; cases hI; simp [zgr] at hg
  case anewarray j =>
    simp only [trI] at hI
    cases hr : lkC (mCls M) j with
    | none => rw [hr] at hI; cases hI
    | some r => rw [hr] at hI; cases hI; simp [zgr] at hg
  case newarray t => cases t <;> simp only [trI] at hI <;> first | (cases hI; simp [zgr] at hg; done) | (cases hI; done)
  case ldc j =>
    simp only [trI] at hI
    cases hr : lkI (mCls M) j with
    | none => rw [hr] at hI; cases hI
    | some r => rw [hr] at hI; cases hI; simp [zgr] at hg
  case ldc_w j =>
    simp only [trI] at hI
    cases hr : lkI (mCls M) j with
    | none => rw [hr] at hI; cases hI
    | some r => rw [hr] at hI; cases hI; simp [zgr] at hg
  case ldc2_w j =>
    simp only [trI] at hI
    cases hr : lkJ (mCls M) j with
    | none => rw [hr] at hI; cases hI
    | some r => rw [hr] at hI; cases hI; simp [zgr] at hg
  case getstatic j =>
    simp only [trI] at hI
    cases hr : lkS (mCls M) j with
    | none => rw [hr] at hI; cases hI
    | some r => rw [hr] at hI; cases hI; simp [zgr] at hg
  case tableswitch d lo hi offs =>
    simp only [trI] at hI
    cases hr : lkW (mCls M) pc with
    | none => rw [hr] at hI; cases hI
    | some r =>
      rw [hr] at hI
      simp only [Option.bind_some] at hI
      split at hI
      · cases hI; simp [zgr] at hg
      · cases hI
  case ifCond kd off => simp only [trI] at hI; obtain ⟨hI, -⟩ := ztgt hI; subst hI; simp [zgr] at hg
  case if_icmp kd off => simp only [trI] at hI; obtain ⟨hI, -⟩ := ztgt hI; subst hI; simp [zgr] at hg
  case if_acmp kd off => simp only [trI] at hI; obtain ⟨hI, -⟩ := ztgt hI; subst hI; simp [zgr] at hg
  case ifnull off => simp only [trI] at hI; obtain ⟨hI, -⟩ := ztgt hI; subst hI; simp [zgr] at hg
  case ifnonnull off => simp only [trI] at hI; obtain ⟨hI, -⟩ := ztgt hI; subst hI; simp [zgr] at hg
  case goto off => simp only [trI] at hI; obtain ⟨hI, -⟩ := ztgt hI; subst hI; simp [zgr] at hg
  all_goals first | (simp only [trI] at hI; cases hI; done) | (simp only [trI, Option.some.injEq] at hI; subst hI; simp [zgr] at hg)
end ZT2
