/-! years: a house's walks, drawn by a seed -/
theorem zush8 (x : Int32) : ∃ k, k < 16777216 ∧ zush x 8 = nI k := by
  refine ⟨x.toUInt32.toNat >>> 8, ?_, ?_⟩
  · have h : x.toUInt32.toNat < 4294967296 := x.toUInt32.toNat_lt
    rw [Nat.shiftRight_eq_div_pow]
    omega
  · apply Int32.toBitVec_inj.1
    unfold zush nI
    apply BitVec.eq_of_toNat_eq
    have e : (x.toUInt32 >>> (Int32.toUInt32 8 &&& Int32.toUInt32 31)).toNat = x.toUInt32.toNat >>> 8 := by
      rw [UInt32.toNat_shiftRight]
      rfl
    have h : x.toUInt32.toNat < 4294967296 := x.toUInt32.toNat_lt
    have h2 : x.toUInt32.toNat >>> 8 < 4294967296 := by
      rw [Nat.shiftRight_eq_div_pow]
      omega
    show (x.toUInt32 >>> (Int32.toUInt32 8 &&& Int32.toUInt32 31)).toNat = (BitVec.ofNat 32 (x.toUInt32.toNat >>> 8)).toNat
    rw [e, BitVec.toNat_ofNat, Nat.mod_eq_of_lt h2]
/-- hidden from reduction: products of written numbers -/
theorem seed_ex : ∃ f : Int32 → Int32, ∀ x, f x = x * 1103515245 + 12345 := ⟨_, fun _ => rfl⟩
noncomputable def seedS : Int32 → Int32 := Classical.choose seed_ex
theorem seedS_eq (x : Int32) : seedS x = x * 1103515245 + 12345 := Classical.choose_spec seed_ex x
theorem dr_ex : ∃ f : Int32 → Nat → Nat, ∀ x m, 0 < m → m < 2147483648 → f x m < m ∧ zrem (zush x 8) (nI m) = nI (f x m) := by
  refine ⟨fun x m => ix (zush x 8) % m, fun x m h0 hm => ⟨Nat.mod_lt _ h0, ?_⟩⟩
  obtain ⟨k, hk, e⟩ := zush8 x
  show zrem (zush x 8) (nI m) = nI (ix (zush x 8) % m)
  rw [e, nI_rem (by omega) h0 hm, ix_nI (by omega)]
noncomputable def drN : Int32 → Nat → Nat := Classical.choose dr_ex
theorem dr_spec (x : Int32) (m : Nat) (h0 : 0 < m) (hm : m < 2147483648) : drN x m < m ∧ zrem (zush x 8) (nI m) = nI (drN x m) := Classical.choose_spec dr_ex x m h0 hm
theorem drN_lt (x : Int32) {m : Nat} (h0 : 0 < m) (hm : m < 2147483648) : drN x m < m := (dr_spec x m h0 hm).1
theorem x_seed (x : Int32) (w : Wd) : sh_92 x w = some (seedS x, w) := by
  unfold sh_92
  rw [seedS_eq]
theorem x_draw (x : Int32) {m : Nat} (w : Wd) (h0 : 0 < m) (hm : m < 2147483648) : sh_93 x (nI m) w = some (nI (drN x m), w) := by
  unfold sh_93
  rw [if_neg (by rw [l1, nlt_i hm (by decide)]; omega), gd_t (decide_eq_true (nI_ne0 h0 hm)), (dr_spec x m h0 hm).2]
theorem y_draw {x : Int32} {m : Nat} {w : Wd} (e : wI w 166 44 = x) (h0 : 0 < m) (hm : m < 2147483648) : sh_270 166 (nI m) w = some (nI (drN (seedS x) m), sI w 166 44 (seedS x)) := by
  unfold sh_270
  rw [stI_s, gd_t (decide_eq_true (nI_ne0 h0 hm)), wI_same, e, ← seedS_eq, (dr_spec (seedS x) m h0 hm).2]
abbrev Yr : Type := (Nat → Int32) × Int32
noncomputable def yrW (s : Yr) : Yr := (goesS s.1 (drN (seedS s.2) (ix (s.1 2))) (drN (seedS (seedS s.2)) (ix (s.1 3))) (s.1 (13 + drN (seedS s.2) (ix (s.1 2)))), seedS (seedS s.2))
def ntm {α : Type} (f : α → α) (m : Nat) (s : α) : α := fo (fun _ s => f s) m s
theorem ntm_s {α : Type} (f : α → α) (m : Nat) (s : α) : ntm f (m + 1) s = f (ntm f m s) := rfl
theorem ntm_0 {α : Type} (f : α → α) (s : α) : ntm f 0 s = s := rfl
noncomputable def yrWs (m : Nat) (s : Yr) : Yr := ntm yrW m s
noncomputable def yrD (s : Yr) : Yr := if drN (seedS s.2) 6 = 0 then (dayS (beaS s.1 (12 * drN (seedS (seedS (seedS s.2))) (ix (s.1 1)) + drN (seedS (seedS s.2)) (ix (s.1 0)))), seedS (seedS (seedS s.2))) else (dayS s.1, seedS s.2)
noncomputable def yrN (n m : Nat) (s : Yr) : Yr := ntm (fun s => yrD (yrWs m s)) n s
theorem yrWs_s (m : Nat) (s : Yr) : yrWs (m + 1) s = yrW (yrWs m s) := ntm_s yrW m s
theorem yrN_s (n m : Nat) (s : Yr) : yrN (n + 1) m s = yrD (yrWs m (yrN n m s)) := ntm_s (fun s => yrD (yrWs m s)) n s
section YR
variable {S T : Nat → Int32} {w w' : Wd} {us : Nat → Nat → Int32} {n : Nat}
/-- a HOUSE with people and WAYS -/
def PW (T : Nat → Int32) : Prop := 0 < ix (T 2) ∧ ix (T 2) ≤ 6 ∧ 0 < ix (T 3) ∧ ix (T 3) ≤ 6 ∧ 0 < ix (T 0) ∧ ix (T 0) ≤ 12 ∧ 0 < ix (T 1) ∧ ix (T 1) ≤ 12 ∧ T 2 = nI (ix (T 2)) ∧ T 3 = nI (ix (T 3)) ∧ T 0 = nI (ix (T 0)) ∧ T 1 = nI (ix (T 1))
theorem PW.of (hF : WF T) (h2 : ¬ T 2 = 0) (h3 : ¬ T 3 = 0) : PW T := by
  obtain ⟨W, H, e0, e1, hW, hH⟩ := hF.1
  obtain ⟨P, eP, hP⟩ := hF.2.1
  obtain ⟨Y, eY, hY⟩ := hF.2.2.1
  have hY0 : 0 < Y := by
    by_cases q : Y = 0
    · subst q; exact absurd eY h3
    · omega
  have hP0 : 0 < P := by
    by_cases q : P = 0
    · subst q; exact absurd eP h2
    · omega
  obtain ⟨m, en, hm1, hm2, e, hw⟩ := hF.ways (k := 0) (by rw [eY, ix_nI (by omega)]; exact hY0)
  obtain ⟨t, et, ht, ho⟩ := hw 0 (by omega)
  obtain ⟨o1, o2⟩ := ho
  rw [e0, ix_nI (by omega)] at o1
  rw [e1, ix_nI (by omega)] at o2
  unfold PW
  rw [eP, eY, e0, e1, ix_nI (by omega), ix_nI (by omega), ix_nI (by omega), ix_nI (by omega)]
  exact ⟨hP0, hP, hY0, hY, by omega, hW, by omega, hH, rfl, rfl, rfl, rfl⟩
theorem PW.cong (h : PW S) (he : ∀ j, j < 429 → T j = S j) : PW T := by
  unfold PW
  rw [he 0 (by omega), he 1 (by omega), he 2 (by omega), he 3 (by omega)]
  exact h
theorem yrW_lo (hF : WF T) (hP : PW T) {x : Int32} {j : Nat} (hj : j < 430) : (yrW (T, x)).1 j = T j := goes_low hF (drN_lt _ hP.1 (by have := hP.2.1; omega)) _ (Or.inl hj)
theorem yrWs_lo (hF : WF T) (hP : PW T) {x : Int32} {m j : Nat} (hj : j < 430) : (yrWs m (T, x)).1 j = T j := by
  induction m generalizing j with
  | zero => rfl
  | succ m ih =>
    have hl : ∀ j, j < 429 → (yrWs m (T, x)).1 j = T j := fun j hj => ih (by omega)
    have hF' := hF.cong hl
    have hP' := hP.cong hl
    rw [yrWs_s]
    have e := yrW_lo (x := (yrWs m (T, x)).2) hF' hP' hj
    rw [show ((yrWs m (T, x)).1, (yrWs m (T, x)).2) = yrWs m (T, x) from rfl] at e
    rw [e, ih hj]
theorem yrt (hP : PW T) (x y : Int32) : 12 * drN x (ix (T 1)) + drN y (ix (T 0)) < 144 := by
  obtain ⟨-, -, -, -, h0, h12, h1, h2, -⟩ := hP
  have a := drN_lt x h1 (by omega)
  have b := drN_lt y h0 (by omega)
  omega
theorem yrD_lo (hP : PW T) {x : Int32} {j : Nat} (hj : j < 429) : (yrD (T, x)).1 j = T j := by
  unfold yrD
  split
  · show dayS _ j = _
    rw [day_lo (Or.inl hj)]
    exact bea_lo (yrt hP _ _) (by omega)
  · exact day_lo (Or.inl hj)
theorem yrD_d (hP : PW T) {x : Int32} : (yrD (T, x)).1 429 = T 429 + 1 := by
  unfold yrD
  split
  · show dayS _ 429 = _
    unfold dayS
    rw [if_pos rfl, bea_lo (yrt hP _ _) (by omega)]
  · show dayS _ 429 = _
    unfold dayS
    rw [if_pos rfl]
theorem yr1_lo (hF : WF T) (hP : PW T) {x : Int32} {m : Nat} : (∀ j, j < 429 → (yrD (yrWs m (T, x))).1 j = T j) ∧ (yrD (yrWs m (T, x))).1 429 = T 429 + 1 := by
  have hl : ∀ j, j < 429 → (yrWs m (T, x)).1 j = T j := fun j hj => yrWs_lo hF hP (by omega)
  have hP' := hP.cong hl
  constructor
  · intro j hj
    have e := yrD_lo (x := (yrWs m (T, x)).2) hP' hj
    rw [show ((yrWs m (T, x)).1, (yrWs m (T, x)).2) = yrWs m (T, x) from rfl] at e
    rw [e, hl j hj]
  · have e := yrD_d (x := (yrWs m (T, x)).2) hP'
    rw [show ((yrWs m (T, x)).1, (yrWs m (T, x)).2) = yrWs m (T, x) from rfl] at e
    rw [e, yrWs_lo hF hP (by omega)]
theorem yrN_lo (hF : WF S) (hP : PW S) {x : Int32} {d m : Nat} (ed : S 429 = nI d) (n : Nat) : (∀ j, j < 429 → (yrN n m (S, x)).1 j = S j) ∧ (yrN n m (S, x)).1 429 = nI (d + n) := by
  induction n with
  | zero => exact ⟨fun _ _ => rfl, ed⟩
  | succ n ih =>
    obtain ⟨i1, i2⟩ := ih
    have h := yr1_lo (x := (yrN n m (S, x)).2) (m := m) (hF.cong i1) (hP.cong i1)
    rw [show ((yrN n m (S, x)).1, (yrN n m (S, x)).2) = yrN n m (S, x) from rfl] at h
    rw [yrN_s]
    refine ⟨fun j hj => by rw [h.1 j hj, i1 j hj], by rw [h.2, i2, nI_s]; rfl⟩
theorem x_drawDay (h : XG T w) (hP : PW T) (hd : ix (T 429) ≤ 998) {x : Int32} {m : Nat} (hm : m ≤ 9) : tp (sh_91 0 x (nI m) w) (fun v w' => v = (yrD (yrWs m (T, x))).2 ∧ XG (yrD (yrWs m (T, x))).1 w' ∧ Kp rugP w w') := by
  have hF0 := h.1
  unfold sh_91
  refine tp_it (fun j s w' => s = ((yrWs j (T, x)).2, nI j) ∧ j ≤ m ∧ XG (yrWs j (T, x)).1 w' ∧ Kp rugP w w') m (by omega) ⟨rfl, Nat.zero_le _, h, Kp.refl⟩ (fun j s w' hI => ?_)
  obtain ⟨e, hj, g1, g2⟩ := hI
  subst e
  have lo : ∀ j', j' < 430 → (yrWs j (T, x)).1 j' = T j' := fun j' hj' => yrWs_lo hF0 hP hj'
  have hP' : PW (yrWs j (T, x)).1 := hP.cong (fun j' hj' => lo j' (by omega))
  have g0 := g1
  obtain ⟨hF, hW, hr, a, ha, h7, hR⟩ := g1
  have hP2 := hP'
  obtain ⟨p1, p2, p3, p4, p5, p6, p7, p8, p9, p10, p11, p12⟩ := hP2
  have e2 : wI w' a 3 = nI (ix ((yrWs j (T, x)).1 2)) := by rw [hR.2.2.1]; exact p9
  have e3 : wI w' a 4 = nI (ix ((yrWs j (T, x)).1 3)) := by rw [hR.2.2.2.1]; exact p10
  have e0 : wI w' a 0 = nI (ix ((yrWs j (T, x)).1 0)) := by rw [hR.1]; exact p11
  have e1 : wI w' a 1 = nI (ix ((yrWs j (T, x)).1 1)) := by rw [hR.2.1]; exact p12
  refine tp_ite (fun hlt => ?_) (fun hlt => ?_)
  · have hjm : j < m := (nlt_i (by omega) (by omega)).mp hlt
    have q1 := drN_lt (seedS (yrWs j (T, x)).2) p1 (by omega)
    have q2 := drN_lt (seedS (seedS (yrWs j (T, x)).2)) p3 (by omega)
    refine tp_ce (x_seed _ _) (tp_der ha ?_)
    rw [e2]
    refine tp_ce (x_draw _ _ p1 (by omega)) (tp_ce (x_seed _ _) (tp_der ha (tp_der ha ?_)))
    rw [e3]
    refine tp_ce (x_draw _ _ p3 (by omega)) (tp_der ha (tp_ce (x_soleOf hF hR _) ?_))
    rw [at_in hF q1, Nat.zero_add, nI_s]
    refine tp_cl (x_tread hF hW hR hr (by omega) q1 q2 _) (fun _ w2 h2 => tp_lt (tp_on ⟨hjm, rfl, by omega, ?_, g2.trans h2.2⟩))
    rw [yrWs_s]
    exact g0.rug h2.2 (fun q a b => by omega) (fun j' hj' => yrW_lo (x := (yrWs j (T, x)).2) hF hP' (by omega)) (hW.goes hF q1 _) h2.1
  · have hjm : j = m := by
      by_cases q : j < m
      · exact absurd (nlt q (by omega)) hlt
      · omega
    subst hjm
    obtain ⟨F, e6, hF1, hF9⟩ := hF.2.2.2.2.2.1
    have hd9 : ix ((yrWs j (T, x)).1 429) ≤ 998 := by rw [lo 429 (by omega)]; exact hd
    have ey : yrD (yrWs j (T, x)) = if drN (seedS (yrWs j (T, x)).2) 6 = 0 then (dayS (beaS (yrWs j (T, x)).1 (12 * drN (seedS (seedS (seedS (yrWs j (T, x)).2))) (ix ((yrWs j (T, x)).1 1)) + drN (seedS (seedS (yrWs j (T, x)).2)) (ix ((yrWs j (T, x)).1 0)))), seedS (seedS (seedS (yrWs j (T, x)).2))) else (dayS (yrWs j (T, x)).1, seedS (yrWs j (T, x)).2) := rfl
    refine tp_ce (x_seed _ _) (tp_ce (x_draw (m := 6) _ _ (by decide) (by decide)) (tp_ite (fun c => ?_) (fun c => ?_)))
    · have c' : drN (seedS (yrWs j (T, x)).2) 6 = 0 := by
        have := drN_lt (seedS (yrWs j (T, x)).2) (m := 6) (by decide) (by decide)
        exact (nI_eq (by omega) (by decide)).mp (show nI _ = nI 0 from c)
      have ht := yrt hP' (seedS (seedS (seedS (yrWs j (T, x)).2))) (seedS (seedS (yrWs j (T, x)).2))
      refine tp_ce (x_seed _ _) (tp_der ha ?_)
      rw [e0]
      refine tp_ce (x_draw _ _ p5 (by omega)) (tp_ce (x_seed _ _) (tp_der ha (tp_der ha ?_)))
      rw [e1]
      refine tp_ce (x_draw _ _ p7 (by omega)) ?_
      rw [l12, nI_m, nI_p, Nat.mul_comm _ 12, Nat.zero_add]
      refine tp_cl (x_beatOne hF hW hR hr (by omega) ht) (fun v w2 h2 => ?_)
      obtain ⟨-, hr2, hK2⟩ := h2
      have hX2 := g0.rug hK2 (fun q a b => by omega) (fun j hj => bea_lo ht (by omega)) (hW.bea ht) hr2
      have hX3 := hX2
      obtain ⟨hF2, hW2, hr2, a2, ha2, h72, hR2⟩ := hX2
      have e62 : beaS (yrWs j (T, x)).1 (12 * drN (seedS (seedS (seedS (yrWs j (T, x)).2))) (ix ((yrWs j (T, x)).1 1)) + drN (seedS (seedS (yrWs j (T, x)).2)) (ix ((yrWs j (T, x)).1 0))) 6 = nI F := by rw [bea_lo ht (by omega)]; exact e6
      have hd2 : ix (beaS (yrWs j (T, x)).1 (12 * drN (seedS (seedS (seedS (yrWs j (T, x)).2))) (ix ((yrWs j (T, x)).1 1)) + drN (seedS (seedS (yrWs j (T, x)).2)) (ix ((yrWs j (T, x)).1 0))) 429) ≤ 998 := by rw [bea_lo ht (by omega)]; exact hd9
      refine tp_der ha2 (tp_ce (x_fadeDays hR2) ?_)
      rw [e62]
      refine tp_cl (x_letDay hF2 hW2 hr2 e62 hd2) (fun _ w3 h3 => tp_out ⟨?_, ?_, (g2.trans hK2).trans h3.2⟩)
      · rw [ey, if_pos c']
      · rw [ey, if_pos c']
        exact hX3.rug h3.2 (fun q a b => by omega) (fun j hj => day_lo (Or.inl hj)) (hW2.day hF2 hr2 hd2) h3.1
    · have c' : ¬ drN (seedS (yrWs j (T, x)).2) 6 = 0 := fun q => c (by rw [q]; rfl)
      refine tp_der ha (tp_ce (x_fadeDays hR) ?_)
      rw [e6, Nat.zero_add]
      refine tp_cl (x_letDay hF hW hr e6 hd9) (fun _ w3 h3 => tp_out ⟨?_, ?_, g2.trans h3.2⟩)
      · rw [ey, if_neg c']
      · rw [ey, if_neg c']
        exact g0.rug h3.2 (fun q a b => by omega) (fun j hj => day_lo (Or.inl hj)) (hW.day hF hr hd9) h3.1
def yrOk (S : Nat → Int32) (p q : Int32) : Prop := dsOk S p 60 ∧ (∃ m, q = nI m ∧ 1 ≤ m ∧ m ≤ 9) ∧ ¬ S 2 = 0 ∧ ¬ S 3 = 0
theorem x_years_no (h : XG S w) {p q s : Int32} (hn : ¬ yrOk S p q) : sh_90 0 p q s w = some (-1, w) := by
  obtain ⟨hF, hW, hr, a, ha, h7, hR⟩ := h
  obtain ⟨d, ed, hd⟩ := hW.1
  unfold sh_90
  by_cases h1 : 1 ≤ p
  · rw [if_pos h1]
    by_cases h2 : p ≤ 60
    · rw [if_pos h2]
      by_cases h3 : 1 ≤ q
      · rw [if_pos h3]
        by_cases h4 : q ≤ 9
        · rw [if_pos h4, der_e ha, hR.2.2.1]
          by_cases h5 : S 2 = 0
          · rw [if_pos h5]
          · rw [if_neg h5, der_e ha, hR.2.2.2.1]
            by_cases h6 : S 3 = 0
            · rw [if_pos h6]
            · rw [if_neg h6, if_pos]
              obtain ⟨m, hm, e⟩ := nI_ex (x := p) (by rw [i_le] at h1 ⊢; have : (1 : Int) ≤ p.toInt := h1; show (0 : Int) ≤ _; omega)
              obtain ⟨k, hk, e2⟩ := nI_ex (x := q) (by rw [i_le] at h3 ⊢; have : (1 : Int) ≤ q.toInt := h3; show (0 : Int) ≤ _; omega)
              subst e; subst e2
              rw [l1, nle_i (by decide) hm] at h1
              rw [l60, nle_i hm (by decide)] at h2
              rw [l1, nle_i (by decide) hk] at h3
              rw [l9, nle_i hk (by decide)] at h4
              rw [Nat.zero_add, hr.1, ed, l999, pk_sub (by omega), nlt_i (by omega) (by omega)]
              by_cases z : d + m ≤ 999
              · exact absurd ⟨⟨m, d, rfl, ed, h1, h2, z⟩, ⟨k, rfl, h3, h4⟩, h5, h6⟩ hn
              · omega
        · rw [if_neg h4]
      · rw [if_neg h3]
    · rw [if_neg h2]
  · rw [if_neg h1]
theorem y_years_no (hW : WR S) (hS : wI w 168 = S) {p q s : Int32} (hn : ¬ yrOk S p q) : sh_269 166 p q s w = some (-1, sI w 166 0 0) := by
  obtain ⟨d, ed, hd⟩ := hW.1
  unfold sh_269
  rw [stI_s, cl_e (y_isIn p 1 60 _)]
  by_cases h1 : 1 ≤ p ∧ p ≤ 60
  · rw [if_pos (by rw [decide_eq_true h1.1, decide_eq_true h1.2]; rfl), cl_e (y_isIn q 1 9 _)]
    by_cases h3 : 1 ≤ q ∧ q ≤ 9
    · rw [if_pos (by rw [decide_eq_true h3.1, decide_eq_true h3.2]; rfl), gd_l (by decide) (by decide), m0 hS, ix_2]
      by_cases h5 : S 2 = 0
      · rw [if_pos h5]
      · rw [if_neg h5, gd_l (by decide) (by decide), ix_3]
        by_cases h6 : S 3 = 0
        · rw [if_pos h6]
        · rw [if_neg h6, gd_l (by decide) (by decide), if_pos]
          obtain ⟨h1, h2⟩ := h1
          obtain ⟨h3, h4⟩ := h3
          obtain ⟨m, hm, e⟩ := nI_ex (x := p) (by rw [i_le] at h1 ⊢; have : (1 : Int) ≤ p.toInt := h1; show (0 : Int) ≤ _; omega)
          obtain ⟨k, hk, e2⟩ := nI_ex (x := q) (by rw [i_le] at h3 ⊢; have : (1 : Int) ≤ q.toInt := h3; show (0 : Int) ≤ _; omega)
          subst e; subst e2
          rw [l1, nle_i (by decide) hm] at h1
          rw [l60, nle_i hm (by decide)] at h2
          rw [l1, nle_i (by decide) hk] at h3
          rw [l9, nle_i hk (by decide)] at h4
          rw [ix_429, ed, nI_p, l999, nlt_i (by omega) (by omega)]
          by_cases z : d + m ≤ 999
          · exact absurd ⟨⟨m, d, rfl, ed, h1, h2, z⟩, ⟨k, rfl, h3, h4⟩, h5, h6⟩ hn
          · omega
    · rw [if_neg (by rw [Bool.and_eq_true, decide_eq_true_eq, decide_eq_true_eq]; exact h3)]
  · rw [if_neg (by rw [Bool.and_eq_true, decide_eq_true_eq, decide_eq_true_eq]; exact h1)]
theorem x_years (h : XG S w) (hU : XU us n w) {m k d : Nat} {x : Int32} (ed : S 429 = nI d) (h1 : 1 ≤ m) (h60 : m ≤ 60) (hd : d + m ≤ 999) (k1 : 1 ≤ k) (k9 : k ≤ 9) (s2 : ¬ S 2 = 0) (s3 : ¬ S 3 = 0) : tp (sh_90 0 (nI m) (nI k) x w) (fun v w' => v = nI (d + m) ∧ XG (yrN m k (S, x)).1 w' ∧ XU (kepU us n S) (kepN n) w' ∧ Kp (fun q => undP q ∨ rugP q) w w') := by
  have h0 := h
  obtain ⟨hF, hW, hr, a, ha, h7, hR⟩ := h
  have hP := PW.of hF s2 s3
  unfold sh_90
  refine tp_if (by rw [l1, nle_i (by decide) (by omega)]; exact h1) (tp_if (by rw [l60, nle_i (by omega) (by decide)]; exact h60) (tp_if (by rw [l1, nle_i (by decide) (by omega)]; exact k1) (tp_if (by rw [l9, nle_i (by omega) (by decide)]; exact k9) (tp_der ha (tp_ifn (by rw [hR.2.2.1]; exact s2) (tp_der ha (tp_ifn (by rw [hR.2.2.2.1]; exact s3) (tp_ifn (by rw [Nat.zero_add, hr.1, ed, l999, pk_sub (by omega), nlt_i (by omega) (by omega)]; omega) (tp_cl (x_keep hr hU) (fun _ w1 h1 => ?_))))))))))
  obtain ⟨hU1, hK1⟩ := h1
  have hX1 : XG S w1 := h0.kp hK1 (fun q a b => by unfold undP; omega)
  refine tp_it (fun j s w' => s = ((yrN j k (S, x)).2, nI j) ∧ j ≤ m ∧ XG (yrN j k (S, x)).1 w' ∧ XU (kepU us n S) (kepN n) w' ∧ Kp (fun q => undP q ∨ rugP q) w w') m (by omega) ⟨rfl, Nat.zero_le _, hX1, hU1, hK1.mono (fun q hq => Or.inl hq)⟩ (fun j s w' hI => ?_)
  obtain ⟨e, hj, g1, g2, g3⟩ := hI
  subst e
  obtain ⟨lo, lod⟩ := yrN_lo (x := x) (m := k) hF hP ed j
  refine tp_ite (fun hlt => ?_) (fun hlt => ?_)
  · have hjm : j < m := (nlt_i (by omega) (by omega)).mp hlt
    rw [nI_s]
    refine tp_cl (x_drawDay g1 (hP.cong lo) (by rw [lod, ix_nI (by omega)]; omega) k9) (fun v w2 h2 => tp_lt (tp_on ⟨hjm, ?_, by omega, h2.2.1, g2.kp h2.2.2 (fun q hq => by unfold undP at hq; unfold rugP; omega), g3.trans (h2.2.2.mono (fun q hq => Or.inr hq))⟩))
    rw [h2.1]; rfl
  · have hjm : j = m := by
      by_cases q : j < m
      · exact absurd (nlt q (by omega)) hlt
      · omega
    subst hjm
    exact tp_out ⟨by rw [Nat.zero_add, g1.2.2.1.1, lod], g1, g2, g3⟩
theorem y_years (hF : WF S) (hS : wI w 168 = S) (hn : n ≤ 6) (hU : MU us n w) {m k d : Nat} {x : Int32} (ed : S 429 = nI d) (h1 : 1 ≤ m) (h60 : m ≤ 60) (hd : d + m ≤ 999) (k1 : 1 ≤ k) (k9 : k ≤ 9) (s2 : ¬ S 2 = 0) (s3 : ¬ S 3 = 0) : tp (sh_269 166 (nI m) (nI k) x w) (fun v w' => v = nI (d + m) ∧ wI w' 168 = (yrN m k (S, x)).1 ∧ MU (kepU us n S) (kepN n) w' ∧ Kp (fun q => q = 166 ∨ q = 168 ∨ q = 173) w w' ∧ Fm (fun j => j = 23 ∨ j = 0 ∨ j = 44) w w') := by
  have hP := PW.of hF s2 s3
  have hU1 : MU us n (sI w 166 0 0) := hU.of (wI_other (by decide)) (wI_row (by decide))
  unfold sh_269
  refine tp_stI (tp_ce (y_isIn _ _ _ _) (tp_if (by rw [decide_eq_true (show (1 : Int32) ≤ nI m by rw [l1, nle_i (by decide) (by omega)]; exact h1), decide_eq_true (show nI m ≤ (60 : Int32) by rw [l60, nle_i (by omega) (by decide)]; exact h60)]; rfl) (tp_ce (y_isIn _ _ _ _) (tp_if (by rw [decide_eq_true (show (1 : Int32) ≤ nI k by rw [l1, nle_i (by decide) (by omega)]; exact k1), decide_eq_true (show nI k ≤ (9 : Int32) by rw [l9, nle_i (by omega) (by decide)]; exact k9)]; rfl) (tp_gd (ib_l (by decide) (by decide)) (tp_ifn (by rw [m0 hS]; exact s2) (tp_gd (ib_l (by decide) (by decide)) (tp_ifn (by rw [m0 hS]; exact s3) (tp_gd (ib_l (by decide) (by decide)) (tp_ifn (by rw [m0 hS, ix_429, ed, nI_p, l999, nlt_i (by omega) (by omega)]; omega) (tp_cl (y_keep (m0 hS) hn hU1) (fun _ w1 h1 => tp_stI ?_))))))))))))
  obtain ⟨hU1, hK1, hF1⟩ := h1
  have hS1 : wI w1 168 = S := by rw [hK1.I (by omega)]; exact m0 hS
  refine tp_it (fun j s w' => s = nI j ∧ j ≤ m ∧ wI w' 168 = (yrN j k (S, x)).1 ∧ wI w' 166 44 = (yrN j k (S, x)).2 ∧ MU (kepU us n S) (kepN n) w' ∧ Kp (fun q => q = 166 ∨ q = 168 ∨ q = 173) w w' ∧ Fm (fun j => j = 23 ∨ j = 0 ∨ j = 44) w w') m (by omega) ⟨rfl, Nat.zero_le _, by rw [wI_row (by decide)]; exact hS1, wI_same, hU1.of (wI_other (by decide)) (wI_row (by decide)), ((kp0 (P := fun q => q = 166 ∨ q = 168 ∨ q = 173) (Or.inl rfl)).trans (hK1.mono (fun q hq => by omega))).trans (kp0 (Or.inl rfl)), fun j hj => by rw [wI_other (by omega), hF1 j (by omega), wI_other (by omega)]⟩ (fun j s w' hI => ?_)
  obtain ⟨e, hj, g1, g5, g2, g3, g4⟩ := hI
  subst e
  obtain ⟨lo, lod⟩ := yrN_lo (x := x) (m := k) hF hP ed j
  refine tp_ite (fun hlt => ?_) (fun hlt => ?_)
  · have hjm : j < m := (nlt_i (by omega) (by omega)).mp hlt
    have hFj := hF.cong lo
    have hPj := hP.cong lo
    refine tp_it (fun i s w' => s = nI i ∧ i ≤ k ∧ wI w' 168 = (yrWs i (yrN j k (S, x))).1 ∧ wI w' 166 44 = (yrWs i (yrN j k (S, x))).2 ∧ MU (kepU us n S) (kepN n) w' ∧ Kp (fun q => q = 166 ∨ q = 168 ∨ q = 173) w w' ∧ Fm (fun j => j = 23 ∨ j = 0 ∨ j = 44) w w') k (by omega) ⟨rfl, Nat.zero_le _, g1, g5, g2, g3, g4⟩ (fun i s w' hI => ?_)
    clear g1 g5 g2 g3 g4
    obtain ⟨e, hi, g1, g5, g2, g3, g4⟩ := hI
    subst e
    have lo2 : ∀ j', j' < 430 → (yrWs i (yrN j k (S, x))).1 j' = (yrN j k (S, x)).1 j' := fun j' hj' => by
      have e := yrWs_lo (x := (yrN j k (S, x)).2) (m := i) hFj hPj hj'
      exact e
    have hFi := hFj.cong (fun j' hj' => lo2 j' (by omega))
    have hPi := hPj.cong (fun j' hj' => lo2 j' (by omega))
    have hP2 := hPi
    obtain ⟨p1, p2, p3, p4, p5, p6, p7, p8, p9, p10, p11, p12⟩ := hP2
    have gS : ∀ {w' : Wd} {v : Int32} {T : Nat → Int32}, wI w' 168 = T → wI (sI w' 166 44 v) (166 + 2) = T := fun h => by rw [wI_row (by decide)]; exact h
    have gM : ∀ {w' : Wd} {v : Int32}, MU (kepU us n S) (kepN n) w' → MU (kepU us n S) (kepN n) (sI w' 166 44 v) := fun h => h.of (wI_other (by decide)) (wI_row (by decide))
    have gK : ∀ {w' : Wd} {v : Int32}, Kp (fun q => q = 166 ∨ q = 168 ∨ q = 173) w w' → Kp (fun q => q = 166 ∨ q = 168 ∨ q = 173) w (sI w' 166 44 v) := fun h => h.sI (Or.inl rfl) _ _
    have gF : ∀ {w' : Wd} {v : Int32}, Fm (fun j => j = 23 ∨ j = 0 ∨ j = 44) w w' → Fm (fun j => j = 23 ∨ j = 0 ∨ j = 44) w (sI w' 166 44 v) := fun h j hj => by rw [wI_other (by omega)]; exact h j hj
    refine tp_ite (fun hlt => ?_) (fun hlt => ?_)
    · have him : i < k := (nlt_i (by omega) (by omega)).mp hlt
      have q1 := drN_lt (seedS (yrWs i (yrN j k (S, x))).2) p1 (by omega)
      have q2 := drN_lt (seedS (seedS (yrWs i (yrN j k (S, x))).2)) p3 (by omega)
      rw [ix_2, show wI w' (166 + 2) = wI w' 168 from rfl, g1, p9]
      refine tp_gd (ib_l (by decide) (by decide)) (tp_ce (y_draw g5 p1 (by omega)) ?_)
      rw [ix_3, gS g1, p10]
      refine tp_gd (ib_l (by decide) (by decide)) (tp_ce (y_draw wI_same p3 (by omega)) ?_)
      rw [l13, nI_p, ix_nI (by omega), gS (gS g1), nI_s]
      refine tp_gd (ib_nI (by omega) (by decide)) (tp_cl (y_walks (o := 166) hFi (gS (gS g1)) q1 q2 _) (fun _ w2 h2 => ?_))
      refine tp_lt (tp_on ⟨him, rfl, by omega, h2.1, ?_, (gM (gM g2)).of (by rw [h2.2.I (by omega)]) (by rw [h2.2.I (by omega)]), (gK (gK g3)).trans (h2.2.mono (fun q hq => by omega)), fun j hj => by rw [h2.2.I (by omega)]; exact gF (gF g4) j hj⟩)
      rw [h2.2.I (by omega), wI_same]; rfl
    · have him : i = k := by
        by_cases q : i < k
        · exact absurd (nlt q (by omega)) hlt
        · omega
      subst him
      have ey : yrN (j + 1) i (S, x) = if drN (seedS (yrWs i (yrN j i (S, x))).2) 6 = 0 then (dayS (beaS (yrWs i (yrN j i (S, x))).1 (12 * drN (seedS (seedS (seedS (yrWs i (yrN j i (S, x))).2))) (ix ((yrWs i (yrN j i (S, x))).1 1)) + drN (seedS (seedS (yrWs i (yrN j i (S, x))).2)) (ix ((yrWs i (yrN j i (S, x))).1 0)))), seedS (seedS (seedS (yrWs i (yrN j i (S, x))).2))) else (dayS (yrWs i (yrN j i (S, x))).1, seedS (yrWs i (yrN j i (S, x))).2) := rfl
      refine tp_ce (y_draw (m := 6) g5 (by decide) (by decide)) (tp_ite (fun c => ?_) (fun c => ?_))
      · have c' : drN (seedS (yrWs i (yrN j i (S, x))).2) 6 = 0 := by
          have := drN_lt (seedS (yrWs i (yrN j i (S, x))).2) (m := 6) (by decide) (by decide)
          exact (nI_eq (by omega) (by decide)).mp (show nI _ = nI 0 from c)
        have ht := yrt hPi (seedS (seedS (seedS (yrWs i (yrN j i (S, x))).2))) (seedS (seedS (yrWs i (yrN j i (S, x))).2))
        rw [if_pos c'] at ey
        rw [ix_0, gS g1, p11]
        refine tp_gd (ib_l (by decide) (by decide)) (tp_ce (y_draw wI_same p5 (by omega)) ?_)
        rw [ix_1, gS (gS g1), p12]
        refine tp_gd (ib_l (by decide) (by decide)) (tp_ce (y_draw wI_same p7 (by omega)) ?_)
        rw [l12, nI_m, nI_p, nI_s]
        refine tp_cl (y_beats (o := 166) (gS (gS (gS g1))) ht) (fun v w2 h2 => ?_)
        obtain ⟨-, hS2, hK2⟩ := h2
        refine tp_cl (y_day (o := 166) (hFi.cong (fun j hj => bea_lo ht (by omega))) hS2) (fun _ w3 h3 => tp_lt (tp_oin ⟨hjm, rfl, by omega, ?_, ?_, ?_, ?_, fun j hj => ?_⟩))
        · rw [ey]; exact h3.1
        · rw [ey, h3.2.I (by omega), hK2.I (by omega), wI_same]
        · exact ((gM (gM (gM g2))).of (by rw [hK2.I (by omega)]) (by rw [hK2.I (by omega)])).of (by rw [h3.2.I (by omega)]) (by rw [h3.2.I (by omega)])
        · exact ((gK (gK (gK g3))).trans (hK2.mono (fun q hq => by omega))).trans (h3.2.mono (fun q hq => by omega))
        · rw [h3.2.I (by omega), hK2.I (by omega)]; exact gF (gF (gF g4)) j hj
      · have c' : ¬ drN (seedS (yrWs i (yrN j i (S, x))).2) 6 = 0 := fun q => c (by rw [q]; rfl)
        rw [if_neg c'] at ey
        rw [nI_s]
        refine tp_cl (y_day (o := 166) hFi (gS g1)) (fun _ w3 h3 => tp_lt (tp_oin ⟨hjm, rfl, by omega, ?_, ?_, ?_, ?_, fun j hj => ?_⟩))
        · rw [ey]; exact h3.1
        · rw [ey, h3.2.I (by omega), wI_same]
        · exact (gM g2).of (by rw [h3.2.I (by omega)]) (by rw [h3.2.I (by omega)])
        · exact (gK g3).trans (h3.2.mono (fun q hq => by omega))
        · rw [h3.2.I (by omega)]; exact gF g4 j hj
  · have hjm : j = m := by
      by_cases q : j < m
      · exact absurd (nlt q (by omega)) hlt
      · omega
    subst hjm
    refine tp_gd (ib_l (by decide) (by decide)) (tp_out ⟨?_, g1, g2, g3, g4⟩)
    rw [show wI w' (166 + 2) (ix 429) = (yrN j k (S, x)).1 429 from congrFun g1 _, lod]
end YR
