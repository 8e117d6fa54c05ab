/-! READINGS: all that go on from a beginning -/
def skP (q : Nat) : Prop := q = 48 ∨ q = 54 ∨ q = 56 ∨ q = 57 ∨ q = 58 ∨ q = 59
def SKP (k : Nat) (w w' : Wd) : Prop := Kp skP w w' ∧ F48 (fun j => j = 0 ∨ j = 11) w w' ∧ (∀ p, p < 8 * (k + 1) → wI w' 54 p = wI w 54 p ∧ wI w' 56 p = wI w 56 p) ∧ ∀ j, j < k → wI w' 57 j = wI w 57 j
def SETP (S : Nat → Int32) (b : Nat → Nat) (T M B a k v : Nat) (w : Wd) : Prop := HR S w a ∧ RDS S b T M w ∧ (∀ j, j < k → wI w 57 j = nI (dg B k v j) - 1) ∧ (∀ t, t < T → wI w 54 (8 * k + t) = nI (b (4 * t + 2) - depN S (rdA b) (dg B k v) t k) ∧ wI w 56 (8 * k + t) = tpS S (rdA b) (dg B k v) t k) ∧ OKK S (rdA b) (fun t => b (4 * t + 2)) (fun t => b (4 * t + 3)) T M (dg B k v) k ∧ ∀ j, j < k → rfB S (rdA b) T j = true → dg B k v j = 0
def XSQ (S : Nat → Int32) (b : Nat → Nat) (T Y B : Nat) (e : Nat) : Bool := rdQ S (rdA b) b T Y B e && zf B Y (rfB S (rdA b) T) e
def XST (S : Nat → Int32) (b : Nat → Nat) (T Y B : Nat) (w0 w : Wd) (E : Nat) : Prop := ∃ n fe, wI w 48 11 = nI n ∧ n ≤ E ∧ fe ≤ 6 ∧ (0 < n → wI w 48 0 = nI fe) ∧ (n = 0 → wI w 48 0 = wI w0 48 0 ∧ wI w 58 = wI w0 58 ∧ wI w 59 = wI w0 59) ∧ RST (XSQ S b T Y B) (dg B Y) (rdPP B Y) Y E n (fun k => wI w 58 k) (fun k => wI w 59 k) fe
section XE
variable {S : Nat → Int32} {w w' w0 w2 : Wd} {n T Y P B M a t k v : Nat} {b : Nat → Nat}
theorem SKP.refl : SKP k w w := ⟨Kp.refl, fun _ _ => rfl, fun _ _ => ⟨rfl, rfl⟩, fun _ _ => rfl⟩
theorem SKP.trans (h : SKP k w w') (h2 : SKP k w' w2) : SKP k w w2 := ⟨h.1.trans h2.1, fun j hj => (h2.2.1 j hj).trans (h.2.1 j hj), fun p hp => ⟨(h2.2.2.1 p hp).1.trans (h.2.2.1 p hp).1, (h2.2.2.1 p hp).2.trans (h.2.2.1 p hp).2⟩, fun j hj => (h2.2.2.2 j hj).trans (h.2.2.2 j hj)⟩
theorem SKP.down (h : SKP (k + 1) w w') : SKP k w w' := ⟨h.1, h.2.1, fun p hp => h.2.2.1 p (by omega), fun j hj => h.2.2.2 j (by omega)⟩
theorem RDS.sk (h : RDS S b T M w) (hk : Kp skP w w') (hf : F48 (fun j => j = 0 ∨ j = 11) w w') : RDS S b T M w' := by
  unfold RDS at *
  rw [hf 1 (by decide), hk.I (show ¬ skP 49 by unfold skP; decide), hk.I (show ¬ skP 50 by unfold skP; decide), hk.I (show ¬ skP 51 by unfold skP; decide), hk.I (show ¬ skP 52 by unfold skP; decide), hk.I (show ¬ skP 53 by unfold skP; decide), hk.I (show ¬ skP 55 by unfold skP; decide)]
  exact h
theorem XST.skip {E E' : Nat} (h : XST S b T Y B w0 w E) (hE : E ≤ E') (hq : ∀ e, E ≤ e → e < E' → XSQ S b T Y B e = false) : XST S b T Y B w0 w E' := by
  obtain ⟨n, fe, h1, h2, h3, h4, h5, h6⟩ := h
  exact ⟨n, fe, h1, by omega, h3, h4, h5, h6.skip hE hq⟩
theorem XST.kp {E : Nat} (h : XST S b T Y B w0 w E) (hk : Kp (fun q => q = 54 ∨ q = 56 ∨ q = 57) w w') : XST S b T Y B w0 w' E := by
  unfold XST at *
  rw [hk.I (show ¬ (48 = 54 ∨ 48 = 56 ∨ 48 = 57) by decide), hk.I (show ¬ (58 = 54 ∨ 58 = 56 ∨ 58 = 57) by decide), hk.I (show ¬ (59 = 54 ∨ 59 = 56 ∨ 59 = 57) by decide)]
  exact h
theorem n_pl {p U : Nat} (hp : p < 1000) (hU : U < 1000) : nI p - 1 < nI U ↔ p ≤ U := by
  rcases p with _ | p
  · refine ⟨fun _ => Nat.zero_le _, fun _ => ?_⟩
    rw [i_lt, i_nI (by omega)]
    have h1 : (nI 0 - 1 : Int32).toInt = -1 := by decide
    omega
  · rw [nI_pred, nlt_i (by omega) (by omega)]
    omega
theorem x_settle (hF : WF S) (ha : a = 7 ∨ a = 17) (hY : S 3 = nI Y) (hY6 : Y ≤ 6) (hP : S 2 = nI P) (hP6 : P ≤ 6) (hB : B = P + 1) (hT : T ≤ 8) (hM : M ≤ 81) (hMw : ∀ p, p < P → ix (S (7 + p)) * ix (S 6) ≤ M) (hb : ∀ p, p < 4 * T → b p < 256) : ∀ d k f v w, k + d = Y → d < f → v < B ^ k → SETP S b T M B a k v w → XST S b T Y B w0 w (v * B ^ d) → tp (sr_113 f 48 a (nI k) (nI (mkB (dg B k v) k)) w) (fun _ w' => SKP k w w' ∧ XST S b T Y B w0 w' ((v + 1) * B ^ d)) := by
  have hB0 : 0 < B := by omega
  have d7 : ∀ K e j, dg B K e j < 7 := fun K e j => Nat.lt_of_lt_of_le (dg_lt hB0 _ _ _) (by omega)
  have dP : ∀ K e j, dg B K e j ≤ P := fun K e j => by have := dg_lt (B := B) hB0 K e j; omega
  intro d
  induction d with
  | zero =>
    intro k f v w hkd hf hv hs hx
    have : k = Y := by omega
    subst this
    obtain ⟨f, rfl⟩ : ∃ f', f = f' + 1 := ⟨f - 1, by omega⟩
    obtain ⟨hR, hD, h57, hL, hO, hfr⟩ := hs
    obtain ⟨n, fe, h11, hn, hfe, h0, hz, hRS⟩ := hx
    rw [Nat.pow_zero, Nat.mul_one] at hn hRS
    have hN := by_le (B := B) (Y := k) (by omega) hY6 hB0
    have hmk := mkB_lt (c := dg B k v) k (fun j _ => d7 _ _ _)
    have hpc : pcN (mkB (dg B k v) k) ≤ 6 := by rw [← fs_pc _ hmk]; exact fs_le _ 6
    show tp (sb_113 (sr_113 f) 48 a (nI k) _ w) _
    unfold sb_113
    refine tp_ifn (by rw [hR.2.2.2.1, hY]; exact nnlt (Nat.le_refl _) (by omega)) (tp_ce (x_bitCount hmk) (tp_cl (x_115 (fe := fe) hR ha hY hY6 (by omega) (by omega) h11 h0 (by omega) h57) (fun _ w' hr => tp_some ?_)))
    obtain ⟨kk, ff, g11, g0, gv⟩ := hr
    have hq : XSQ S b T k B v = true := by
      unfold XSQ
      rw [Bool.and_eq_true]
      exact ⟨fit_ok hY hY6 hO, decide_eq_true hfr⟩
    refine ⟨⟨kk.mono (fun q y => by unfold skP; omega), ff, fun p _ => ⟨by rw [kk.I (by decide)], by rw [kk.I (by decide)]⟩, fun j _ => by rw [kk.I (by decide)]⟩, n + 1, (if n = 0 then rdPP B k v else if rdPP B k v < fe then rdPP B k v else fe), g11, ?_, ?_, fun _ => g0, fun z => by omega, ?_⟩
    · rw [Nat.pow_zero, Nat.mul_one]; omega
    · have : rdPP B k v ≤ 6 := hpc
      split
      · exact this
      · split
        · exact this
        · exact hfe
    · rw [Nat.pow_zero, Nat.mul_one]
      refine hRS.hit hq (fun e j => d7 _ _ _) (fun j hj => ?_) (fun j hj => ?_) rfl
      · exact (gv j hj).1
      · exact (gv j hj).2
  | succ d ih =>
    intro k f v w hkd hf hv hs hx
    obtain ⟨f, rfl⟩ : ∃ f', f = f' + 1 := ⟨f - 1, by omega⟩
    have hs0 := hs
    obtain ⟨hR, hD, h57, hL, hO, hfr⟩ := hs
    have hk6 : k < 6 := by omega
    have hib : ib (nI k) 6 = true := ib_nI hk6 (by decide)
    have hmk := mkB_lt (c := dg B k v) k (fun j _ => d7 _ _ _)
    show tp (sb_113 (sr_113 f) 48 a (nI k) _ w) _
    unfold sb_113
    obtain ⟨U, hU, eU1, eU2⟩ : ∃ U, (if wI w (48 + 5) (ix (nI k)) = 0 then wI w a 3 else 0) = nI U ∧ (rfB S (rdA b) T k = true → U = 0) ∧ (rfB S (rdA b) T k = false → U = P) := by
      rw [ix_nI (by omega), show wI w (48 + 5) k = bi (rfB S (rdA b) T k) from (hD.2.2.1 k hk6).1]
      cases rfB S (rdA b) T k with
      | true => exact ⟨0, if_neg (by decide), fun _ => rfl, fun z => (by cases z)⟩
      | false => exact ⟨P, (by rw [if_pos (show bi false = 0 from rfl), hR.2.2.1]; exact hP), fun z => (by cases z), fun _ => rfl⟩
    have hUP : U ≤ P := by
      cases q : rfB S (rdA b) T k with
      | true => rw [eU1 q]; omega
      | false => rw [eU2 q]; omega
    have pw : ∀ x : Nat, x * B ^ (d + 1) = x * B * B ^ d := fun x => by rw [Nat.pow_succ, Nat.mul_assoc, Nat.mul_comm (B ^ d) B]
    refine tp_if (by rw [hR.2.2.2.1, hY]; exact nlt (by omega) (by omega)) (tp_if (n0le (by omega)) (tp_ifn (show ¬ (6 : Int32) ≤ nI k from nnle (a := 6) (b := k) (by omega) (by decide)) (tp_gd hib (tp_lt ?_))))
    rw [hU]
    refine tp_it (fun p st x => st = nI p - 1 ∧ p ≤ U + 1 ∧ SKP k w x ∧ XST S b T Y B w0 x ((v * B + p) * B ^ d)) (U + 1) (by omega) ⟨rfl, by omega, SKP.refl, by rw [Nat.add_zero, ← pw]; exact hx⟩ (fun p st x hI => ?_)
    obtain ⟨es, hp, hsk, hxs⟩ := hI
    rw [es]
    obtain ⟨kx, fx, lx, cx⟩ := hsk
    by_cases q : p ≤ U
    · refine tp_if ((n_pl (by omega) (by omega)).mpr q) (tp_gd hib (tp_stG (fun x1 e1 k1 => ?_)))
      have hpB : p < B := by omega
      have cj : ∀ j, j < k → dg B (k + 1) (v * B + p) j = dg B k v j := fun j hj => dg_child hpB hj
      have ck : dg B (k + 1) (v * B + p) k = p := dg_new hpB
      have kx1 : Kp skP w x1 := kx.trans (k1.mono (fun q y => by unfold skP; omega))
      have fx1 : F48 (fun j => j = 0 ∨ j = 11) w x1 := fun j hj => by rw [k1.I (by decide)]; exact fx j hj
      have hR1 : HR S x1 a := hR.kp kx1 (fun q h1 h2 => by unfold skP; omega)
      have hD1 := hD.sk kx1 fx1
      rw [ix_nI (by omega)] at e1
      have r57 : wI x1 57 = up (wI x 57) k (nI p - 1) := e1
      have hO1 := OKK_c (c' := dg B (k + 1) (v * B + p)) hO (fun j hj => (cj j hj).symm)
      have dc : ∀ t, depN S (rdA b) (dg B (k + 1) (v * B + p)) t k = depN S (rdA b) (dg B k v) t k := fun t => depN_c k (fun j hj => Or.inl (cj j hj))
      have tc : ∀ t, tpS S (rdA b) (dg B (k + 1) (v * B + p)) t k = tpS S (rdA b) (dg B k v) t k := fun t => tpS_c k (fun j hj => Or.inl (cj j hj))
      have h116 := x_116 (c := dg B (k + 1) (v * B + p)) hF hR1 ha hY hY6 hP hP6 hT hM hMw hD1 hb (by omega) (by rw [ck]; omega) hO1 (fun t ht => by
        rw [dc, tc, k1.I (by decide), k1.I (by decide), (lx _ (by omega)).1, (lx _ (by omega)).2]
        exact hL t ht)
      rw [ck] at h116
      refine tp_cl h116 (fun r x2 h2 => ?_)
      obtain ⟨k2, l2, hr, hrow⟩ := h2
      have k2' : Kp (fun q => q = 54 ∨ q = 56 ∨ q = 57) x x2 := (k1.mono (fun q y => by omega)).trans (k2.mono (fun q y => by omega))
      have kx2 : Kp skP w x2 := kx1.trans (k2.mono (fun q y => by unfold skP; omega))
      have fx2 : F48 (fun j => j = 0 ∨ j = 11) w x2 := fun j hj => by rw [k2.I (by decide)]; exact fx1 j hj
      have c57 : wI x2 57 = up (wI x 57) k (nI p - 1) := by rw [k2.I (by decide)]; exact r57
      have sk2 : SKP k w x2 := ⟨kx2, fx2, fun p' hp' => ⟨by rw [(l2 p' hp').1, k1.I (by decide)]; exact (lx p' hp').1, by rw [(l2 p' hp').2, k1.I (by decide)]; exact (lx p' hp').2⟩, fun j hj => by rw [c57, up_o (by omega)]; exact cx j hj⟩
      have hxs2 := hxs.kp k2'
      have en : nI p - 1 + 1 = nI (p + 1) - 1 := by rw [nI_pred, Int32.sub_add_cancel]
      cases hr1 : r with
      | true =>
        have hO2 := hr.mp hr1
        have hrow2 := hrow hr1
        have hset : SETP S b T M B a (k + 1) (v * B + p) x2 := by
          refine ⟨hR.kp kx2 (fun q h1 h2 => by unfold skP; omega), hD.sk kx2 fx2, fun j hj => ?_, hrow2, hO2, fun j hj hfj => ?_⟩
          · rw [c57]
            by_cases y : j = k
            · rw [y, up_s, ck]
            · rw [up_o y, cx j (by omega), cj j (by omega)]
              exact h57 j (by omega)
          · by_cases y : j = k
            · rw [y] at hfj ⊢
              have := eU1 hfj
              rw [ck]
              omega
            · rw [cj j (by omega)]
              exact hfr j (by omega) hfj
        have em : mkB (dg B (k + 1) (v * B + p)) (k + 1) = if p = 0 then mkB (dg B k v) k else mkB (dg B k v) k ||| 2 ^ (p - 1) := by
          show (if dg B (k + 1) (v * B + p) k = 0 then mkB _ k else mkB _ k ||| 2 ^ (dg B (k + 1) (v * B + p) k - 1)) = _
          rw [ck, mkB_c (c' := dg B k v) k cj]
        have ez : (if nI p - 1 = -1 then nI (mkB (dg B k v) k) else nI (mkB (dg B k v) k) ||| (1 <<< ((nI p - 1) &&& 31)) : Int32) = nI (mkB (dg B (k + 1) (v * B + p)) (k + 1)) := by
          rw [em]
          by_cases y : p = 0
          · rw [if_pos ((n_bi1 (by omega)).mpr y), if_pos y]
          · rw [if_neg (fun z => y ((n_bi1 (by omega)).mp z)), if_neg y, show nI p - 1 = nI (p - 1) from n_sub (y := 1) (by omega), sh6 _ (by omega), n_or]
        have hlt : v * B + p < B ^ (k + 1) := by
          rw [Nat.pow_succ]
          calc v * B + p < v * B + B := by omega
            _ = (v + 1) * B := by rw [Nat.add_mul, Nat.one_mul]
            _ ≤ B ^ k * B := Nat.mul_le_mul_right _ hv
        refine tp_if rfl (tp_ltv ez ?_)
        rw [nI_s]
        refine tp_cl (ih (k + 1) f (v * B + p) x2 (by omega) (by omega) hlt hset hxs2) (fun _ x3 h3 => tp_lt (tp_on ⟨by omega, ?_, by omega, sk2.trans h3.1.down, by rw [← Nat.add_assoc]; exact h3.2⟩))
        exact en
      | false =>
        refine tp_ifn (by decide) (tp_lt (tp_on ⟨by omega, en, by omega, sk2, ?_⟩))
        refine hxs2.skip (Nat.mul_le_mul_right _ (by omega)) (fun e h1 h2 => ?_)
        cases hq : XSQ S b T Y B e with
        | false => rfl
        | true =>
          exfalso
          unfold XSQ at hq
          rw [Bool.and_eq_true] at hq
          have hok := ok_fit (M := M) (k := k + 1) hMw hY6 (fun j _ => dP _ _ _) (by omega) hq.1
          have := OKK_c (c' := dg B (k + 1) (v * B + p)) hok (fun j hj => by
            rw [show Y = (k + 1) + d by omega]
            exact dg_range h1 (by rw [Nat.add_assoc]; exact h2) hj)
          have := hr.mpr this
          rw [hr1] at this
          cases this
    · have : p = U + 1 := by omega
      subst this
      refine tp_ifn (fun z => q ((n_pl (by omega) (by omega)).mp z)) (tp_out ⟨⟨kx, fx, lx, cx⟩, ?_⟩)
      rw [pw]
      cases hf2 : rfB S (rdA b) T k with
      | false =>
        rw [eU2 hf2, ← hB] at hxs
        rw [Nat.add_mul v 1, Nat.one_mul]
        exact hxs
      | true =>
        rw [eU1 hf2] at hxs
        have hvB : (v + 1) * B = v * B + B := by rw [Nat.add_mul, Nat.one_mul]
        refine hxs.skip (Nat.mul_le_mul_right _ (by omega)) (fun e h1 h2 => ?_)
        have hu1 : v * B + 1 ≤ e / B ^ d := (Nat.le_div_iff_mul_le (Nat.pow_pos hB0)).mpr h1
        have hu2 : e / B ^ d < (v + 1) * B := Nat.div_lt_of_lt_mul (by rw [Nat.mul_comm]; exact h2)
        have hdg : dg B Y e k = e / B ^ d % B := by rw [show Y = (k + 1) + d by omega, dg_pre (by omega), dg_last]
        obtain ⟨r, er⟩ : ∃ r, e / B ^ d = v * B + r := ⟨e / B ^ d - v * B, by omega⟩
        rw [er, ba_mod (by omega)] at hdg
        have : zf B Y (rfB S (rdA b) T) e = false := decide_eq_false (fun z => by
          have := z k (by omega) hf2
          omega)
        unfold XSQ
        rw [this, Bool.and_false]
end XE
