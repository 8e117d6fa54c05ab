/-! readings(), read(), fewest(), both sides -/
def rqP (q : Nat) : Prop := 48 ≤ q ∧ q ≤ 59
section XF
variable {S : Nat → Int32} {w w' wx wy : Wd} {n T Y P B M a t k v : Nat} {b : Nat → Nat} {f : Nat → Int64}
theorem x_107 (hF : WF S) (hR : HR S w a) (ha : a = 7 ∨ a = 17) (hX : XT n b w) (hY : S 3 = nI Y) (hY6 : Y ≤ 6) (hP : S 2 = nI P) (hP6 : P ≤ 6) (hB : B = P + 1) : tp (sh_107 48 1 a w) (fun r w' => Kp rqP w w' ∧ ((¬ rdOk S n b ∧ r = -1 ∧ wI w' 48 0 = wI w 48 0 ∧ wI w' 48 12 = wI w 48 12 ∧ wI w' 48 13 = wI w 48 13 ∧ wI w' 58 = wI w 58 ∧ wI w' 59 = wI w 59) ∨ (rdOk S n b ∧ ∃ nc fe al, RST (XSQ S b (n / 4) Y B) (dg B Y) (rdPP B Y) Y (B ^ Y) nc (fun k => wI w' 58 k) al fe ∧ (nc = 0 → r = 0 ∧ wI w' 48 0 = wI w 48 0 ∧ wI w' 48 12 = wI w 48 12 ∧ wI w' 48 13 = wI w 48 13 ∧ wI w' 58 = wI w 58 ∧ wI w' 59 = wI w 59) ∧ (0 < nc → r = nI (nc * frN (rfB S (rdA b) (n / 4)) B 0 Y) ∧ wI w' 48 13 = 1 ∧ wI w' 48 12 = nI Y ∧ wI w' 48 0 = nI fe ∧ ∀ k, k < Y → wI w' 59 k = if rfB S (rdA b) (n / 4) k = true ∧ 1 < B then -2 else al k)))) := by
  have hB0 : 0 < B := by omega
  have dP : ∀ K e j, dg B K e j ≤ P := fun K e j => by have := dg_lt (B := B) hB0 K e j; omega
  have hbb := hX.2.2
  unfold sh_107
  refine tp_cl (x_108 hR ha hX) (fun r2 w1 h1 => ?_)
  obtain ⟨k1, f1, h1⟩ := h1
  rcases h1 with ⟨er, hok, hD⟩ | ⟨er, hno⟩
  · rw [er]
    have hT8 : n / 4 ≤ 8 := hok.2.2.1
    have h4 : n % 4 = 0 := hok.1
    have hR1 : HR S w1 a := hR.kp k1 (fun q h1 h2 => by unfold rkP; omega)
    refine tp_if rfl (tp_cl (x_109 hF hR1 ha hP hP6 hT8 hD) (fun _ w2 h2 => ?_))
    obtain ⟨M, hM, hMw, hS2, k2⟩ := h2
    refine tp_stG (fun w3 e3 k3 => ?_)
    have hb : ∀ p, p < 4 * (n / 4) → b p < 256 := fun p hp => (hbb p (by omega)).2
    have kw3 : Kp rqP w w3 := ((k1.mono (fun q y => by unfold rkP at y; unfold rqP; omega)).trans (k2.mono (fun q y => by unfold rqP; omega))).trans (k3.mono (fun q y => by unfold rqP; omega))
    have hR3 : HR S w3 a := hR.kp kw3 (fun q h1 h2 => by unfold rqP; omega)
    have hS3 : RDS S b (n / 4) M w3 := hS2.sk (k3.mono (fun q y => Or.inl y)) (fun j hj => by rw [e3, up_o (by omega)])
    have r54 : ∀ t, t < n / 4 → wI w3 54 t = nI (b (4 * t + 2)) ∧ wI w3 56 t = -1 := fun t ht => by
      rw [k3.I (by decide), k2.I (by decide), k3.I (by decide), k2.I (by decide)]
      exact (hD.2 t ht).2.2
    have s0 : wI w3 48 0 = wI w 48 0 ∧ wI w3 48 12 = wI w 48 12 ∧ wI w3 48 13 = wI w 48 13 := by
      rw [e3, up_o (by decide), up_o (by decide), up_o (by decide), k2.I (by decide)]
      exact ⟨f1 0 (by decide), f1 12 (by decide), f1 13 (by decide)⟩
    have s58 : wI w3 58 = wI w 58 ∧ wI w3 59 = wI w 59 := by
      rw [k3.I (by decide), k2.I (by decide), k3.I (by decide), k2.I (by decide), k1.I (show ¬ rkP 58 by unfold rkP; decide), k1.I (show ¬ rkP 59 by unfold rkP; decide)]
      exact ⟨rfl, rfl⟩
    refine tp_cl (x_112 hF hT8 hM hS3 hb (fun t ht => (r54 t ht).1) (dg B 0 0)) (fun r8 w4 h4' => ?_)
    obtain ⟨e4, hr8⟩ := h4'
    rw [e4]
    refine tp_jnP (fun _ x => Kp rqP w x ∧ HR S x a ∧ wI x 48 12 = wI w 48 12 ∧ wI x 48 13 = wI w 48 13 ∧ (∀ k, k < 6 → wI x 53 k = bi (rfB S (rdA b) (n / 4) k)) ∧ XST S b (n / 4) Y B w3 x (B ^ Y)) (fun j9 hj => ?_) (fun _ x hx => ?_)
    · cases hr : r8 with
      | true =>
        have hO := hr8.mp hr
        refine tp_if rfl ?_
        have hset := x_settle (w0 := w3) hF ha hY hY6 hP hP6 hB hT8 hM hMw hb Y 0 10 0 w3 (by omega) (by omega) (by rw [Nat.pow_zero]; decide) ⟨hR3, hS3, fun j hj => by omega, fun t ht => ?_, hO, fun j hj => by omega⟩ (by rw [Nat.zero_mul]; exact ⟨0, 0, by rw [e3, up_s]; rfl, by omega, by omega, fun z => by omega, fun _ => ⟨rfl, rfl, rfl⟩, RST.zero⟩)
        · refine tp_cl hset (fun _ x hx => hj _ _ ?_)
          obtain ⟨sk, xs⟩ := hx
          rw [Nat.zero_add, Nat.one_mul] at xs
          refine ⟨kw3.trans (sk.1.mono (fun q y => by unfold skP at y; unfold rqP; omega)), hR3.kp sk.1 (fun q h1 h2 => by unfold skP; omega), by rw [sk.2.1 12 (by decide)]; exact s0.2.1, by rw [sk.2.1 13 (by decide)]; exact s0.2.2, fun k hk => ?_, xs⟩
          rw [sk.1.I (show ¬ skP 53 by unfold skP; decide)]
          exact (hS3.2.2.1 k hk).1
        · rw [Nat.mul_zero, Nat.zero_add]
          exact r54 t ht
      | false =>
        refine tp_ifn (by decide) (hj _ _ ⟨kw3, hR3, s0.2.1, s0.2.2, fun k hk => (hS3.2.2.1 k hk).1, 0, 0, by rw [e3, up_s]; rfl, by omega, by omega, fun z => by omega, fun _ => ⟨rfl, rfl, rfl⟩, ?_⟩)
        refine RST.zero.skip (Nat.zero_le _) (fun e _ he => ?_)
        cases hq : XSQ S b (n / 4) Y B e with
        | false => rfl
        | true =>
          exfalso
          unfold XSQ at hq
          rw [Bool.and_eq_true] at hq
          have hok2 := ok_fit (M := M) (k := 0) hMw hY6 (fun j _ => dP _ _ _) (by omega) hq.1
          have := hr8.mpr (OKK_c (c' := dg B 0 0) hok2 (fun j hj => by omega))
          rw [hr] at this
          cases this
    · obtain ⟨kx, hRx, x12, x13, h53, nc, fe, x11, hnc, hfe, x0, xz, hRS⟩ := hx
      rw [x11]
      by_cases q : nc = 0
      · obtain ⟨z1, z2, z3⟩ := xz q
        refine tp_ifn (by rw [q]; decide) (tp_some ⟨kx, Or.inr ⟨hok, nc, fe, _, hRS, fun _ => ⟨by rw [q]; rfl, z1.trans s0.1, x12, x13, z2.trans s58.1, z3.trans s58.2⟩, fun z => by omega⟩⟩)
      · have hN := by_le (B := B) (Y := Y) (by omega) hY6 hB0
        refine tp_if (jp (by omega) (by omega)) (tp_stG (fun x1 g1 m1 => ?_))
        rw [show wI x1 a 4 = nI Y by rw [m1.I (by omega), hRx.2.2.2.1]; exact hY]
        refine tp_stG (fun x2 g2 m2 => ?_)
        have m12 : Kp (fun q => q = 48) x x2 := m1.trans m2
        refine tp_cl (x_117 (fr := rfB S (rdA b) (n / 4)) (hRx.kp m12 (fun q h1 h2 => by omega)) ha hY hY6 hP hP6 hB (fun k hk => by rw [m12.I (by decide)]; exact h53 k hk) (show wI x2 48 11 = nI nc by rw [g2, up_o (by decide), g1, up_o (by decide)]; exact x11)) (fun _ x3 h3 => tp_some ?_)
        obtain ⟨m3, f3, y11, y59⟩ := h3
        refine ⟨(kx.trans (m12.mono (fun q y => by unfold rqP; omega))).trans (m3.mono (fun q y => by unfold rqP; omega)), Or.inr ⟨hok, nc, fe, (fun k => wI x 59 k), ?_, fun z => absurd z q, fun _ => ⟨y11, ?_, ?_, ?_, fun k hk => ?_⟩⟩⟩
        · rw [m3.I (by decide), m12.I (by decide)]; exact hRS
        · rw [f3 13 (by decide), g2, up_o (by decide), g1, up_s]
        · rw [f3 12 (by decide), g2, up_s]
        · rw [f3 0 (by decide), g2, up_o (by decide), g1, up_o (by decide)]; exact x0 (by omega)
        · rw [y59 k hk, m12.I (by decide)]
  · rw [er]
    refine tp_ifn (by decide) (tp_some ⟨k1.mono (fun q y => by unfold rkP at y; unfold rqP; omega), Or.inl ⟨hno, rfl, f1 0 (by decide), f1 12 (by decide), f1 13 (by decide), k1.I (show ¬ rkP 58 by unfold rkP; decide), k1.I (show ¬ rkP 59 by unfold rkP; decide)⟩⟩)
/-- what readings() told last, on both sides -/
def RDR (w1 w2 : Wd) : Prop := (wI w1 48 13 = 0 ∧ wI w2 166 28 = -1 ∧ wI w1 48 0 = -1) ∨ (wI w1 48 13 = 1 ∧ ∃ Y, Y ≤ 6 ∧ wI w1 48 12 = nI Y ∧ wI w2 166 28 = nI Y ∧ wI w1 48 0 = wI w2 166 29 ∧ ∀ k, k < Y → wI w1 58 k = wI w2 176 k ∧ wI w1 59 k = wI w2 177 k)
theorem RDR.same {w1 w2 v1 v2 : Wd} (h : RDR w1 w2) (e0 : wI v1 48 0 = wI w1 48 0) (e12 : wI v1 48 12 = wI w1 48 12) (e13 : wI v1 48 13 = wI w1 48 13) (e58 : wI v1 58 = wI w1 58) (e59 : wI v1 59 = wI w1 59) (y28 : wI v2 166 28 = wI w2 166 28) (y29 : wI v2 166 29 = wI w2 166 29) (y176 : wI v2 176 = wI w2 176) (y177 : wI v2 177 = wI w2 177) : RDR v1 v2 := by
  unfold RDR
  rw [e0, e12, e13, e58, e59, y28, y29, y176, y177]
  exact h
theorem j_106 (hG : XG S wx) (hX : XT n b wx) (hS : wI wy 168 = S) (hM : MT n b wy) (hr : RDR wx wy) : t2 (sh_106 0 wx) (sh_241 166 wy) (fun r1 w1 r2 w2 => r1 = r2 ∧ XT 0 b w1 ∧ MT 0 b w2 ∧ RDR w1 w2 ∧ Kp (fun q => q = 1 ∨ rqP q) wx w1 ∧ Ft (fun j => j = 1) wx w1 ∧ Kp (fun q => rmK q ∨ q = 174) wy w2 ∧ Fm rmF wy w2) := by
  obtain ⟨hF, hWR, hR, a, ea, h7, hH⟩ := hG
  obtain ⟨P, eP, hP⟩ := hF.2.1
  obtain ⟨Y, eY, hY⟩ := hF.2.2.1
  obtain ⟨r1, w1, er1, k1, h1⟩ := x_107 (B := P + 1) hF hH h7 hX eY hY eP hP rfl
  obtain ⟨r2, w2, er2, hM2, k2, f2, h2⟩ := y_readings (B := P + 1) hF hS hM hX.1 (fun j hj => (hX.2.2 j hj).2) eY hY eP hP rfl
  unfold sh_106
  rw [der_e ea]
  refine t2_e1 er1 (t2_g1 (fun w3 e3 k3 => tp_some (tp_eq er2 ?_)))
  have kx : Kp (fun q => q = 1 ∨ rqP q) wx w3 := (k1.mono (fun q y => Or.inr y)).trans (k3.mono (fun q y => Or.inl y))
  have hXT : XT 0 b w3 := ⟨by omega, by rw [show wI w3 1 = wI w3 (0 + 1) from rfl, e3, up_s]; rfl, fun j hj => by omega⟩
  have fx : Ft (fun j => j = 1) wx w3 := fun j hj => by rw [show wI w3 1 = wI w3 (0 + 1) from rfl, e3, up_o hj, k1.I (show ¬ rqP (0 + 1) by unfold rqP; decide)]
  have o3 : ∀ q, ¬ q = 1 → wI w3 q = wI w1 q := fun q hq => k3.I hq
  suffices hmain : r1 = r2 ∧ RDR w3 w2 from ⟨hmain.1, hXT, hM2, hmain.2, kx, fx, k2, f2⟩
  rcases h1 with ⟨hno, e1, a0, a12, a13, a58, a59⟩ | ⟨hok, nc, fe, al, hRx, hz, hp⟩ <;> rcases h2 with ⟨hno', e2, b28, b29, b176, b177⟩ | ⟨hok', cnt, fe', e2, hcn, hfe', hRy, hz', hp'⟩
  · refine ⟨by rw [e1, e2], hr.same ?_ ?_ ?_ ?_ ?_ b28 b29 b176 b177⟩
    · rw [o3 48 (by decide)]; exact a0
    · rw [o3 48 (by decide)]; exact a12
    · rw [o3 48 (by decide)]; exact a13
    · rw [o3 58 (by decide)]; exact a58
    · rw [o3 59 (by decide)]; exact a59
  · exact absurd hok' hno
  · exact absurd hok hno'
  · have fin := rd_fin (B := P + 1) (Y := Y) (fr := rfB S (rdA b) (n / 4)) (φ := fitB S (rdA b) (fun t => b (4 * t + 2)) (fun t => b (4 * t + 3)) (n / 4) Y) (by omega) (by omega) (fun c c' h => fitB_c h) hRx hRy
    obtain ⟨en, fin⟩ := fin
    by_cases q : nc = 0
    · obtain ⟨e1, a0, a12, a13, a58, a59⟩ := hz q
      have hc0 : cnt = 0 := by rw [en, q, Nat.zero_mul]
      obtain ⟨b28, b29, b176, b177⟩ := hz' hc0
      refine ⟨by rw [e1, e2, hc0]; rfl, hr.same ?_ ?_ ?_ ?_ ?_ b28 b29 b176 b177⟩
      · rw [o3 48 (by decide)]; exact a0
      · rw [o3 48 (by decide)]; exact a12
      · rw [o3 48 (by decide)]; exact a13
      · rw [o3 58 (by decide)]; exact a58
      · rw [o3 59 (by decide)]; exact a59
    · obtain ⟨e1, a13, a12, a0, a59⟩ := hp (by omega)
      obtain ⟨hc0, hfe, hv⟩ := fin (by omega)
      obtain ⟨b28, b29⟩ := hp' hc0
      refine ⟨by rw [e1, e2, en], Or.inr ⟨by rw [o3 48 (by decide)]; exact a13, Y, hY, by rw [o3 48 (by decide)]; exact a12, b28, by rw [o3 48 (by decide), a0, b29, hfe], fun k hk => ?_⟩⟩
      obtain ⟨v1, v2⟩ := hv k hk
      rw [o3 58 (by decide), o3 59 (by decide)]
      refine ⟨v1.symm, ?_⟩
      rw [a59 k hk]
      exact v2.symm
/-- read() -/
theorem j_118 (hr : RDR wx wy) (p1 p2 : Int32) : t2 (sh_118 0 p1 p2 wx) (sh_246 166 p1 p2 wy) (fun r1 w1 r2 w2 => r1 = r2 ∧ w1 = wx ∧ w2 = sI wy 166 0 0) := by
  unfold sh_118 sh_246
  rw [cl_id]
  refine t2_s2 ?_
  obtain ⟨v2, ev2⟩ : ∃ v2, v2 = sI wy 166 0 0 := ⟨_, rfl⟩
  rw [← ev2]
  have o28 : wI v2 166 28 = wI wy 166 28 := by rw [ev2, wI_other (by decide)]
  have o176 : wI v2 176 = wI wy 176 ∧ wI v2 177 = wI wy 177 := by rw [ev2]; exact ⟨wI_row (by decide), wI_row (by decide)⟩
  unfold sh_119
  rcases hr with ⟨h13, h28, -⟩ | ⟨h13, Y, hY, h12, h28, -, hv⟩
  · refine t2_if1 h13 (t2_e2 (y_isIn _ _ _ _) (t2_ifn2 (fun z => ?_) (t2_end ⟨rfl, rfl, rfl⟩)))
    rw [o28, h28, Bool.and_eq_true, decide_eq_true_eq, decide_eq_true_eq] at z
    have z1 := (i_le _ _).mp z.1
    have z2 := (i_le _ _).mp z.2
    have c1 : (0 : Int32).toInt = 0 := rfl
    have c2 : (-1 - 1 : Int32).toInt = -2 := by decide
    omega
  · refine t2_ifn1 (by rw [h13]; decide) (t2_e2 (y_isIn _ _ _ _) ?_)
    rw [h12, o28, h28]
    by_cases q0 : 0 ≤ p1
    · obtain ⟨k, hk, e⟩ := nI_ex q0
      subst e
      by_cases qk : k < Y
      · have d1 : decide ((0 : Int32) ≤ nI k) = true := decide_eq_true q0
        have d2 : decide (nI k ≤ nI Y - 1) = true := decide_eq_true (by
          rw [show nI Y - 1 = nI (Y - 1) from n_sub (y := 1) (by omega)]
          exact nle (by omega) (by omega))
        rw [d1, d2]
        refine t2_if1 q0 (t2_if1 (nlt qk (by omega)) (t2_if1 (show nI k < nI 6 from nlt (by omega) (by omega)) (t2_if2 rfl (t2_e2 (y_isIn _ _ _ _) ?_))))
        by_cases q2 : 0 ≤ p2
        · refine t2_if1 q2 ?_
          by_cases q3 : (1 : Int32) < p2
          · refine t2_if1 q3 (t2_ifn2 (fun z => ?_) (t2_end ⟨rfl, rfl, rfl⟩))
            rw [Bool.and_eq_true, decide_eq_true_eq, decide_eq_true_eq] at z
            exact absurd q3 (Int32.not_lt.mpr z.2)
          · refine t2_ifn1 q3 (t2_if2 (by rw [decide_eq_true q2, decide_eq_true (Int32.not_lt.mp q3)]; rfl) ?_)
            have hib : ib (nI k) 6 = true := ib_nI (by omega) (by decide)
            by_cases q4 : p2 = 0
            · refine t2_if1 q4 (t2_gd1 hib (t2_if2 q4 (t2_gd2 hib (t2_end ⟨?_, rfl, rfl⟩))))
              rw [ix_nI (by omega), show wI v2 (166 + 10) = wI wy 176 from o176.1]
              exact (hv k qk).1
            · refine t2_ifn1 q4 (t2_gd1 hib (t2_ifn2 q4 (t2_gd2 hib (t2_end ⟨?_, rfl, rfl⟩))))
              rw [ix_nI (by omega), show wI v2 (166 + 11) = wI wy 177 from o176.2]
              exact (hv k qk).2
        · refine t2_ifn1 q2 (t2_ifn2 (fun z => ?_) (t2_end ⟨rfl, rfl, rfl⟩))
          rw [Bool.and_eq_true, decide_eq_true_eq, decide_eq_true_eq] at z
          exact q2 z.1
      · have nl : ¬ nI k ≤ nI Y - 1 := fun z => by
          rcases Y with _ | Y
          · have z1 := (i_le _ _).mp z
            rw [i_nI (by omega)] at z1
            have c1 : (nI 0 - 1 : Int32).toInt = -1 := by decide
            omega
          · rw [nI_pred] at z
            have := (nI_leI (by omega) (by omega)).mp z
            omega
        refine t2_if1 q0 (t2_ifn1 (nnlt (by omega) (by omega)) (t2_ifn2 (fun z => ?_) (t2_end ⟨rfl, rfl, rfl⟩)))
        rw [Bool.and_eq_true, decide_eq_true_eq, decide_eq_true_eq] at z
        exact nl z.2
    · refine t2_ifn1 q0 (t2_ifn2 (fun z => ?_) (t2_end ⟨rfl, rfl, rfl⟩))
      rw [Bool.and_eq_true, decide_eq_true_eq, decide_eq_true_eq] at z
      exact q0 z.1
/-- fewest() -/
theorem j_120 (hr : RDR wx wy) : t2 (sh_120 0 wx) (sh_247 166 wy) (fun r1 w1 r2 w2 => r1 = r2 ∧ w1 = wx ∧ w2 = sI wy 166 0 0) := by
  unfold sh_120 sh_247
  refine t2_s2 (t2_lt2 ?_)
  rw [wI_other (by decide), wI_other (by decide)]
  refine t2_end ⟨?_, rfl, rfl⟩
  rcases hr with ⟨-, h28, h0⟩ | ⟨-, Y, hY, -, h28, h0, -⟩
  · rw [h28, if_neg (by decide)]; exact h0
  · rw [h28, if_pos (n0le (by omega))]; exact h0
end XF
