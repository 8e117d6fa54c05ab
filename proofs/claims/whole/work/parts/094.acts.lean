/-! goes, days, beat: what the class does, what the reference does -/
theorem l5 : (5 : Int32) = nI 5 := rfl
theorem l20 : (20 : Int32) = nI 20 := rfl
theorem l60 : (60 : Int32) = nI 60 := rfl
theorem l999 : (999 : Int32) = nI 999 := rfl
def XG (S : Nat → Int32) (w : Wd) : Prop := WF S ∧ WR S ∧ RR S w 35 ∧ ∃ a, wR w 0 2 = some a ∧ (a = 7 ∨ a = 17) ∧ HR S w a
def rugP (q : Nat) : Prop := 35 ≤ q ∧ q ≤ 42
section AC
variable {S T : Nat → Int32} {w w' : Wd} {us : Nat → Nat → Int32} {n : Nat}
theorem XG.xs (h : XG S w) : XS S w := by
  obtain ⟨h1, h2, h3, a, h4, -, h5⟩ := h
  exact ⟨h1, h2, h3, a, h4, h5⟩
theorem XG.rug {P : Nat → Prop} (h : XG S w) (hk : Kp P w w') (hP : ∀ q, 7 ≤ q → q ≤ 26 → ¬ P q) (he : ∀ j, j < 429 → T j = S j) (hW : WR T) (hr : RR T w' 35) : XG T w' := by
  obtain ⟨hF, -, -, a, ha, h7, hR⟩ := h
  exact ⟨hF.cong he, hW, hr, a, by rw [hk.R]; exact ha, h7, (hR.kp hk (fun q a b => hP q (by omega) (by omega))).cong hF he⟩
theorem XG.kp {P : Nat → Prop} (h : XG S w) (hk : Kp P w w') (hP : ∀ q, 7 ≤ q → q ≤ 42 → ¬ P q) : XG S w' :=
  h.rug hk (fun q a b => hP q a (by omega)) (fun _ _ => rfl) h.2.1 (h.2.2.1.kp hk (fun q a b => hP q (by omega) (by omega)))
theorem MU.of (h : MU us n w) (e : wI w' 166 23 = wI w 166 23) (e2 : wI w' 173 = wI w 173) : MU us n w' := by
  unfold MU
  rw [e, e2]
  exact h
theorem isK_of3 (hF : WF S) {k : Nat} (hk : k < ix (S 3)) : isK S 3 (nI k) = true := by
  have := hF.w6 hk
  obtain ⟨Y, eY, hY⟩ := hF.2.2.1
  rw [isK_nI (by omega) eY (by omega)]
  rw [eY, ix_nI (by omega)] at hk
  exact decide_eq_true hk
theorem len_S (hF : WF S) {k : Nat} (hk : k < ix (S 3)) : nI (lenN S k) = S (177 + k) := by
  obtain ⟨m, en, hm1, hm2, e, hw⟩ := hF.ways hk
  rw [e, en]
def goOk (S : Nat → Int32) (p q s : Int32) : Bool := isK S 2 p && (isK S 3 q && isK S 2 s)
theorem goOk_t {p q s : Int32} (h : goOk S p q s = true) : ∃ a b c, p = nI a ∧ q = nI b ∧ s = nI c ∧ a < ix (S 2) ∧ b < ix (S 3) ∧ c < ix (S 2) := by
  unfold goOk at h
  rw [Bool.and_eq_true, Bool.and_eq_true] at h
  obtain ⟨a, ea, -, ha⟩ := isK_t h.1
  obtain ⟨b, eb, -, hb⟩ := isK_t h.2.1
  obtain ⟨c, ec, -, hc⟩ := isK_t h.2.2
  exact ⟨a, b, c, ea, eb, ec, ha, hb, hc⟩
theorem x_goes_no (h : XG S w) {p q s : Int32} (hn : goOk S p q s = false) : sh_68 0 p q s w = some (-1, w) := by
  obtain ⟨hF, hW, hr, a, ha, h7, hR⟩ := h
  unfold goOk at hn
  unfold sh_68
  rw [der_e ha, cl_e (x_isPerson hF hR p)]
  by_cases h1 : isK S 2 p = true
  · rw [if_pos h1, der_e ha, cl_e (x_isWay hF hR q)]
    by_cases h2 : isK S 3 q = true
    · rw [if_pos h2, der_e ha, cl_e (x_isPerson hF hR s)]
      rw [h1, h2, Bool.true_and, Bool.true_and] at hn
      rw [hn, if_neg (by decide)]
    · rw [if_neg h2]
  · rw [if_neg h1]
theorem y_goes_no (hF : WF S) (hS : wI w 168 = S) {p q s : Int32} (hn : goOk S p q s = false) : sh_223 166 p q s w = some (-1, sI w 166 0 0) := by
  unfold goOk at hn
  unfold sh_223
  rw [stI_s, cl_e (y_isPerson hF (m0 hS) p)]
  by_cases h1 : isK S 2 p = true
  · rw [if_pos h1, cl_e (y_isWay hF (m0 hS) q)]
    by_cases h2 : isK S 3 q = true
    · rw [if_pos h2, cl_e (y_isPerson hF (m0 hS) s)]
      rw [h1, h2, Bool.true_and, Bool.true_and] at hn
      rw [hn, if_neg (by decide)]
    · rw [if_neg h2]
  · rw [if_neg h1]
theorem x_goes (h : XG S w) (hU : XU us n w) {p k s : Nat} (hp : p < ix (S 2)) (hk : k < ix (S 3)) (hs : s < ix (S 2)) : tp (sh_68 0 (nI p) (nI k) (nI s) w) (fun v w' => v = S (177 + k) ∧ XG (goesS S p k (S (13 + s))) w' ∧ XU (kepU us n S) (kepN n) w' ∧ Kp (fun q => undP q ∨ rugP q) w w') := by
  have h0 := h
  obtain ⟨hF, hW, hr, a, ha, h7, hR⟩ := h
  have hk6 := hF.w6 hk
  unfold sh_68
  refine tp_der ha (tp_ce (x_isPerson hF hR _) (tp_if (isK_of hF hp) (tp_der ha (tp_ce (x_isWay hF hR _) (tp_if (isK_of3 hF hk) (tp_der ha (tp_ce (x_isPerson hF hR _) (tp_if (isK_of hF hs) (tp_cl (x_keep hr hU) (fun _ w1 h1 => ?_))))))))))
  obtain ⟨hU1, hK1⟩ := h1
  have ha1 : wR w1 0 2 = some a := by rw [hK1.R]; exact ha
  have hR1 : HR S w1 a := hR.kp hK1 (fun q a b => by unfold undP; omega)
  have hr1 : RR S w1 35 := hr.kp hK1 (fun q a b => by unfold undP; omega)
  refine tp_der ha1 (tp_der ha1 (tp_ce (x_soleOf hF hR1 _) ?_))
  rw [at_in hF hs, Nat.zero_add]
  refine tp_cl (x_tread hF hW hR1 hr1 (by omega) hp hk _) (fun _ w2 h2 => ?_)
  obtain ⟨hr2, hK2⟩ := h2
  have ha2 : wR w2 0 2 = some a := by rw [hK2.R]; exact ha1
  have hR2 : HR S w2 a := hR1.kp hK2 (fun q a b => by omega)
  refine tp_der ha2 (tp_ce (x_len hF hR2 (by omega)) (tp_some ⟨len_S hF hk, ?_, hU1.kp hK2 (fun q hq => by unfold undP at hq; omega), (hK1.mono (fun q hq => Or.inl hq)).trans (hK2.mono (fun q hq => Or.inr hq))⟩))
  have hX1 : XG S w1 := h0.kp hK1 (fun q a b => by unfold undP; omega)
  exact hX1.rug hK2 (fun q a b => by omega) (fun j hj => goes_low hF hp _ (by omega)) (hW.goes hF hp _) hr2
theorem y_goes (hF : WF S) (hS : wI w 168 = S) (hn : n ≤ 6) (hU : MU us n w) {p k s : Nat} (hp : p < ix (S 2)) (hk : k < ix (S 3)) (hs : s < ix (S 2)) : tp (sh_223 166 (nI p) (nI k) (nI s) w) (fun v w' => v = S (177 + k) ∧ wI w' 168 = goesS S p k (S (13 + s)) ∧ MU (kepU us n S) (kepN n) w' ∧ Kp (fun q => q = 166 ∨ q = 168 ∨ q = 173) w w' ∧ Fm (fun j => j = 23 ∨ j = 0) w w') := by
  have hk6 := hF.w6 hk
  have hs6 := hF.p6 hs
  have hU1 : MU us n (sI w 166 0 0) := hU.of (wI_other (by decide)) (wI_row (by decide))
  unfold sh_223
  refine tp_stI (tp_ce (y_isPerson hF (m0 hS) _) (tp_if (isK_of hF hp) (tp_ce (y_isWay hF (m0 hS) _) (tp_if (isK_of3 hF hk) (tp_ce (y_isPerson hF (m0 hS) _) (tp_if (isK_of hF hs) (tp_cl (y_keep (m0 hS) hn hU1) (fun _ w1 h1 => ?_))))))))
  obtain ⟨hU1, hK1, hF1⟩ := h1
  have hS1 : wI w1 168 = S := by rw [hK1.I (by omega)]; exact m0 hS
  rw [l13, nI_p, ix_nI (by omega), show wI w1 (166 + 2) (13 + s) = S (13 + s) from congrFun hS1 _]
  refine tp_gd (ib_nI (by omega) (by decide)) (tp_cl (y_walks (o := 166) hF hS1 hp hk _) (fun _ w2 h2 => ?_))
  obtain ⟨hS2, hK2⟩ := h2
  rw [l177, nI_p, ix_nI (by omega), hS2]
  refine tp_gd (ib_nI (by omega) (by decide)) (tp_some ⟨goes_low hF hp _ (by omega), hS2, hU1.of (by rw [hK2.I (by omega)]) (by rw [hK2.I (by omega)]), ?_, fun j hj => ?_⟩)
  · exact ((kp0 (P := fun q => q = 166 ∨ q = 168 ∨ q = 173) (Or.inl rfl)).trans (hK1.mono (fun q hq => by omega))).trans (hK2.mono (fun q hq => by omega))
  · rw [hK2.I (by omega), hF1 j (fun q => hj (Or.inl q)), wI_other (fun q => hj (Or.inr q))]
/-! days -/
def dayN (S : Nat → Int32) (n : Nat) : Nat → Int32 := fo (fun _ T => dayS T) n S
theorem dayN_s (S : Nat → Int32) (n : Nat) : dayN S (n + 1) = dayS (dayN S n) := rfl
theorem dayN_lo {j : Nat} (hj : j < 429 ∨ 430 ≤ j ∧ j < 436 ∨ 10084 ≤ j) : dayN S n j = S j := by
  induction n with
  | zero => rfl
  | succ n ih => rw [dayN_s, day_lo hj, ih]
theorem dayN_d {d : Nat} (ed : S 429 = nI d) (n : Nat) : dayN S n 429 = nI (d + n) := by
  induction n with
  | zero => exact ed
  | succ n ih =>
    rw [dayN_s]
    unfold dayS
    rw [if_pos rfl, ih, nI_s]
    rfl
def dsOk (S : Nat → Int32) (p : Int32) (m : Nat) : Prop := ∃ n d, p = nI n ∧ S 429 = nI d ∧ 1 ≤ n ∧ n ≤ m ∧ d + n ≤ 999
theorem x_day1 (h : XG S w) (hd : ix (S 429) ≤ 998) {P : Nat → Prop} {v : Wd → Option (Unit × Wd)} (hv : ∀ w, v w = der (wR w 0 2) (fun a => cl (sh_82 a w) (fun r w1 => sh_83 35 r w1))) : tp (v w) (fun _ w' => XG (dayS S) w' ∧ Kp rugP w w') := by
  have h0 := h
  obtain ⟨hF, hW, hr, a, ha, h7, hR⟩ := h
  obtain ⟨F, e6, hF1, hF9⟩ := hF.2.2.2.2.2.1
  rw [hv]
  refine tp_der ha (tp_ce (x_fadeDays hR) ?_)
  rw [e6]
  refine tp_mono (x_letDay hF hW hr e6 hd) (fun _ w1 h1 => ⟨h0.rug h1.2 (fun q a b => by omega) (fun j hj => day_lo (Or.inl hj)) (hW.day hF hr hd) h1.1, h1.2⟩)
theorem x_days_no (h : XG S w) {p : Int32} (hn : ¬ dsOk S p 20) : sh_81 0 p w = some (-1, w) := by
  obtain ⟨hF, hW, hr, -⟩ := h
  obtain ⟨d, ed, hd⟩ := hW.1
  unfold sh_81
  by_cases h1 : 1 ≤ p
  · rw [if_pos h1]
    by_cases h2 : p ≤ 20
    · obtain ⟨m, hm, e⟩ := nI_ex (x := p) (by rw [i_le] at h1 ⊢; have : (1 : Int) ≤ p.toInt := h1; show (0 : Int) ≤ _; omega)
      subst e
      rw [l1, nle_i (by decide) hm] at h1
      have h2' := h2
      rw [l20, nle_i hm (by decide)] at h2'
      rw [if_pos h2, Nat.zero_add, hr.1, ed, l999, pk_sub (by omega), if_pos]
      rw [nlt_i (by omega) (by omega)]
      by_cases q : d + m ≤ 999
      · exact absurd ⟨m, d, rfl, ed, h1, h2', q⟩ hn
      · omega
    · rw [if_neg h2]
  · rw [if_neg h1]
theorem y_days_no (hW : WR S) (hS : wI w 168 = S) {p : Int32} (hn : ¬ dsOk S p 20) : sh_227 166 p w = some (-1, sI w 166 0 0) := by
  obtain ⟨d, ed, hd⟩ := hW.1
  unfold sh_227
  rw [stI_s, cl_e (y_isIn p 1 20 _)]
  by_cases h1 : 1 ≤ p ∧ p ≤ 20
  · rw [if_pos (by rw [decide_eq_true h1.1, decide_eq_true h1.2]; rfl), gd_l (by decide) (by decide), m0 hS, ix_429, ed]
    obtain ⟨h1, h2⟩ := h1
    obtain ⟨m, hm, e⟩ := nI_ex (x := p) (by rw [i_le] at h1 ⊢; have : (1 : Int) ≤ p.toInt := h1; show (0 : Int) ≤ _; omega)
    subst e
    rw [l1, nle_i (by decide) hm] at h1
    rw [l20, nle_i hm (by decide)] at h2
    rw [nI_p, l999, if_pos]
    rw [nlt_i (by omega) (by omega)]
    by_cases q : d + m ≤ 999
    · exact absurd ⟨m, d, rfl, ed, h1, h2, q⟩ hn
    · omega
  · rw [if_neg (by rw [Bool.and_eq_true, decide_eq_true_eq, decide_eq_true_eq]; exact h1)]
theorem x_days (h : XG S w) (hU : XU us n w) {m d : Nat} (ed : S 429 = nI d) (h1 : 1 ≤ m) (h20 : m ≤ 20) (hd : d + m ≤ 999) : tp (sh_81 0 (nI m) w) (fun v w' => v = nI (d + m) ∧ XG (dayN S m) w' ∧ XU (kepU us n S) (kepN n) w' ∧ Kp (fun q => undP q ∨ rugP q) w w') := by
  unfold sh_81
  refine tp_if (by rw [l1, nle_i (by decide) (by omega)]; exact h1) (tp_if (by rw [l20, nle_i (by omega) (by decide)]; exact h20) (tp_ifn (by rw [Nat.zero_add, h.2.2.1.1, ed, l999, pk_sub (by omega), nlt_i (by omega) (by omega)]; omega) (tp_cl (x_keep h.2.2.1 hU) (fun _ w1 h1 => ?_))))
  obtain ⟨hU1, hK1⟩ := h1
  have hX1 : XG S w1 := h.kp hK1 (fun q a b => by unfold undP; omega)
  refine tp_it (fun j s w' => s = nI j ∧ j ≤ m ∧ XG (dayN S j) w' ∧ XU (kepU us n S) (kepN n) w' ∧ Kp (fun q => undP q ∨ rugP q) w w') m (by omega) ⟨rfl, Nat.zero_le _, hX1, hU1, hK1.mono (fun q hq => Or.inl hq)⟩ (fun j s w' hI => ?_)
  obtain ⟨e, hj, g1, g2, g3⟩ := hI
  subst e
  refine tp_ite (fun hlt => ?_) (fun hlt => ?_)
  · have hjm : j < m := (nlt_i (by omega) (by omega)).mp hlt
    have g0 := g1
    obtain ⟨hF, hW, hr, a, ha, h7, hR⟩ := g1
    obtain ⟨F, e6, hF1, hF9⟩ := hF.2.2.2.2.2.1
    refine tp_der ha (tp_ce (x_fadeDays hR) ?_)
    rw [e6, Nat.zero_add, nI_s]
    have hd9 : ix (dayN S j 429) ≤ 998 := by rw [dayN_d ed, ix_nI (by omega)]; omega
    refine tp_cl (x_letDay hF hW hr e6 hd9) (fun _ w2 h2 => tp_lt (tp_on ⟨hjm, rfl, by omega, ?_, g2.kp h2.2 (fun q hq => by unfold undP at hq; omega), g3.trans (h2.2.mono (fun q hq => Or.inr hq))⟩))
    rw [dayN_s]
    exact g0.rug h2.2 (fun q a b => by omega) (fun j hj => day_lo (Or.inl hj)) (hW.day hF hr hd9) h2.1
  · have hjm : j = m := by
      by_cases q : j < m
      · exact absurd (nlt q (by omega)) hlt
      · omega
    subst hjm
    exact tp_out ⟨by rw [Nat.zero_add, g1.2.2.1.1, dayN_d ed], g1, g2, g3⟩
theorem y_days (hF : WF S) (hS : wI w 168 = S) (hn : n ≤ 6) (hU : MU us n w) {m d : Nat} (ed : S 429 = nI d) (h1 : 1 ≤ m) (h20 : m ≤ 20) (hd : d + m ≤ 999) : tp (sh_227 166 (nI m) w) (fun v w' => v = nI (d + m) ∧ wI w' 168 = dayN S m ∧ MU (kepU us n S) (kepN n) w' ∧ Kp (fun q => q = 166 ∨ q = 168 ∨ q = 173) w w' ∧ Fm (fun j => j = 23 ∨ j = 0) w w') := by
  have hU1 : MU us n (sI w 166 0 0) := hU.of (wI_other (by decide)) (wI_row (by decide))
  unfold sh_227
  refine tp_stI (tp_ce (y_isIn _ _ _ _) (tp_if (by rw [decide_eq_true (show (1 : Int32) ≤ nI m by rw [l1, nle_i (by decide) (by omega)]; exact h1), decide_eq_true (show nI m ≤ (20 : Int32) by rw [l20, nle_i (by omega) (by decide)]; exact h20)]; rfl) (tp_gd (ib_l (by decide) (by decide)) (tp_ifn ?_ (tp_cl (y_keep (m0 hS) hn hU1) (fun _ w1 h1 => ?_))))))
  · rw [m0 hS, ix_429, ed, nI_p, l999, nlt_i (by omega) (by omega)]; omega
  obtain ⟨hU1, hK1, hF1⟩ := h1
  have hS1 : wI w1 168 = S := by rw [hK1.I (by omega)]; exact m0 hS
  refine tp_it (fun j s w' => s = nI j ∧ j ≤ m ∧ wI w' 168 = dayN S j ∧ MU (kepU us n S) (kepN n) w' ∧ Kp (fun q => q = 166 ∨ q = 168 ∨ q = 173) w w' ∧ Fm (fun j => j = 23 ∨ j = 0) w w') m (by omega) ⟨rfl, Nat.zero_le _, hS1, hU1, (kp0 (P := fun q => q = 166 ∨ q = 168 ∨ q = 173) (Or.inl rfl)).trans (hK1.mono (fun q hq => by omega)), fun j hj => by rw [hF1 j (fun q => hj (Or.inl q)), wI_other (fun q => hj (Or.inr q))]⟩ (fun j s w' hI => ?_)
  obtain ⟨e, hj, g1, g2, g3, g4⟩ := hI
  subst e
  refine tp_ite (fun hlt => ?_) (fun hlt => ?_)
  · have hjm : j < m := (nlt_i (by omega) (by omega)).mp hlt
    rw [nI_s]
    refine tp_cl (y_day (o := 166) (hF.cong (fun j hj => dayN_lo (Or.inl hj))) g1) (fun _ w2 h2 => tp_lt (tp_on ⟨hjm, rfl, by omega, h2.1, g2.of (by rw [h2.2.I (by omega)]) (by rw [h2.2.I (by omega)]), g3.trans (h2.2.mono (fun q hq => by omega)), fun j hj => by rw [h2.2.I (by omega)]; exact g4 j hj⟩))
  · have hjm : j = m := by
      by_cases q : j < m
      · exact absurd (nlt q (by omega)) hlt
      · omega
    subst hjm
    refine tp_gd (ib_l (by decide) (by decide)) (tp_out ⟨?_, g1, g2, g3, g4⟩)
    rw [show wI w' (166 + 2) (ix 429) = dayN S j 429 from congrFun g1 _, dayN_d ed]
/-! beat -/
def beaRow (y x0 n : Nat) (s : (Nat → Int32) × Int32) : (Nat → Int32) × Int32 := fo (fun i s => (beaS s.1 (12 * y + (x0 + i)), s.2 + bi (lyS s.1 (12 * y + (x0 + i))))) n s
def beaAll (y0 x0 nx ny : Nat) (s : (Nat → Int32) × Int32) : (Nat → Int32) × Int32 := fo (fun i s => beaRow (y0 + i) x0 nx s) ny s
theorem beaRow_s (y x0 n : Nat) (s : (Nat → Int32) × Int32) : beaRow y x0 (n + 1) s = (beaS (beaRow y x0 n s).1 (12 * y + (x0 + n)), (beaRow y x0 n s).2 + bi (lyS (beaRow y x0 n s).1 (12 * y + (x0 + n)))) := rfl
theorem beaAll_s (y0 x0 nx ny : Nat) (s : (Nat → Int32) × Int32) : beaAll y0 x0 nx (ny + 1) s = beaRow (y0 + ny) x0 nx (beaAll y0 x0 nx ny s) := rfl
theorem add_bi (c : Int32) (b : Bool) : c + bi b = if b = true then c + 1 else c := by
  cases b
  · exact Int32.add_zero c
  · rfl
/-- a TUFT of the rug: its place -/
theorem onR_xy (hF : WF S) {t : Nat} (h : onR S t) : t % 12 < 12 ∧ t / 12 < 12 := by
  have := h.lt hF
  omega
theorem isT_of (hF : WF S) {t : Nat} (h : onR S t) : isT S (nI t) = true := by
  have := h.lt hF
  rw [isT_nI hF (by omega)]
  exact decide_eq_true h
theorem x_beat_no (h : XG S w) {a b : Int32} (hn : ¬ (isT S a = true ∧ isT S b = true)) : sh_84 0 a b w = some (-1, w) := by
  obtain ⟨hF, hW, hr, o, ha, h7, hR⟩ := h
  unfold sh_84
  rw [der_e ha, cl_e (x_onRug hF hR a)]
  by_cases h1 : isT S a = true
  · rw [if_pos h1, der_e ha, cl_e (x_onRug hF hR b), if_neg (fun q => hn ⟨h1, q⟩)]
  · rw [if_neg h1]
theorem y_beat_no (hS : wI w 168 = S) {a b : Int32} (hn : ¬ (isT S a = true ∧ isT S b = true)) : sh_231 166 a b w = some (-1, sI w 166 0 0) := by
  unfold sh_231
  rw [stI_s, cl_e (y_isTuft (m0 hS) a)]
  by_cases h1 : isT S a = true
  · rw [if_pos h1, cl_e (y_isTuft (m0 hS) b), if_neg (fun q => hn ⟨h1, q⟩)]
  · rw [if_neg h1]
def beatR (S : Nat → Int32) (a b : Nat) : (Nat → Int32) × Int32 := beaAll (min (a / 12) (b / 12)) (min (a % 12) (b % 12)) (max (a % 12) (b % 12) + 1 - min (a % 12) (b % 12)) (max (a / 12) (b / 12) + 1 - min (a / 12) (b / 12)) (S, 0)
theorem x_beat (h : XG S w) (hU : XU us n w) {a b : Nat} (hA : onR S a) (hB : onR S b) : tp (sh_84 0 (nI a) (nI b) w) (fun v w' => v = (beatR S a b).2 ∧ XG (beatR S a b).1 w' ∧ XU (kepU us n S) (kepN n) w' ∧ Kp (fun q => undP q ∨ rugP q) w w') := by
  have h0 := h
  obtain ⟨hF, hW, hr, o, ho, h7, hR⟩ := h
  have hA' := hA.lt hF
  have hB' := hB.lt hF
  unfold sh_84
  refine tp_der ho (tp_ce (x_onRug hF hR _) (tp_if (isT_of hF hA) (tp_der ho (tp_ce (x_onRug hF hR _) (tp_if (isT_of hF hB) (tp_cl (x_keep hr hU) (fun _ w1 h1 => ?_)))))))
  obtain ⟨hU1, hK1⟩ := h1
  have hX1 : XG S w1 := h0.kp hK1 (fun q a b => by unfold undP; omega)
  rw [l12, nI_rem (by omega) (by decide) (by decide), nI_rem (by omega) (by decide) (by decide), nI_div (by omega) (by decide) (by decide), nI_div (by omega) (by decide) (by decide)]
  refine tp_ce (x_min _ (by omega) (by omega)) (tp_ce (x_max _ (by omega) (by omega)) (tp_ce (x_max _ (by omega) (by omega)) (tp_ce (x_min _ (by omega) (by omega)) ?_)))
  unfold beatR
  obtain ⟨x0, e0⟩ : ∃ x, x = min (a % 12) (b % 12) := ⟨_, rfl⟩
  obtain ⟨x1, e1⟩ : ∃ x, x = max (a % 12) (b % 12) := ⟨_, rfl⟩
  obtain ⟨y0, e2⟩ : ∃ x, x = min (a / 12) (b / 12) := ⟨_, rfl⟩
  obtain ⟨y1, e3⟩ : ∃ x, x = max (a / 12) (b / 12) := ⟨_, rfl⟩
  rw [← e0, ← e1, ← e2, ← e3]
  have b1 : x0 ≤ x1 ∧ x1 < 12 ∧ y0 ≤ y1 ∧ y1 < 12 := by omega
  clear e0 e1 e2 e3
  obtain ⟨nx, enx⟩ : ∃ x, x = x1 + 1 - x0 := ⟨_, rfl⟩
  obtain ⟨ny, eny⟩ : ∃ x, x = y1 + 1 - y0 := ⟨_, rfl⟩
  rw [← enx, ← eny]
  refine tp_it (fun j s w' => s = ((beaAll y0 x0 nx j (S, 0)).2, nI (y0 + j)) ∧ j ≤ ny ∧ XG (beaAll y0 x0 nx j (S, 0)).1 w' ∧ XU (kepU us n S) (kepN n) w' ∧ Kp (fun q => undP q ∨ rugP q) w w') ny (by omega) ⟨rfl, Nat.zero_le _, hX1, hU1, hK1.mono (fun q hq => Or.inl hq)⟩ (fun j s w' hI => ?_)
  obtain ⟨e, hj, g1, g2, g3⟩ := hI
  subst e
  refine tp_ite (fun hlt => ?_) (fun hlt => ?_)
  · have hjm : j < ny := by
      have := (nle_i (by omega) (by omega)).mp hlt
      omega
    refine tp_it (fun i s w' => s = ((beaRow (y0 + j) x0 i (beaAll y0 x0 nx j (S, 0))).2, nI (x0 + i)) ∧ i ≤ nx ∧ XG (beaRow (y0 + j) x0 i (beaAll y0 x0 nx j (S, 0))).1 w' ∧ XU (kepU us n S) (kepN n) w' ∧ Kp (fun q => undP q ∨ rugP q) w w') nx (by omega) ⟨rfl, Nat.zero_le _, g1, g2, g3⟩ (fun i s w' hI => ?_)
    clear g1 g2 g3
    obtain ⟨e, hi, g1, g2, g3⟩ := hI
    subst e
    refine tp_ite (fun hlt => ?_) (fun hlt => ?_)
    · have him : i < nx := by
        have := (nle_i (by omega) (by omega)).mp hlt
        omega
      have g0 := g1
      obtain ⟨hF, hW, hr, o, ho, h7, hR⟩ := g1
      have ht : 12 * (y0 + j) + (x0 + i) < 144 := by omega
      refine tp_der ho ?_
      rw [nI_m, nI_p, Nat.mul_comm (y0 + j) 12, Nat.zero_add]
      refine tp_cl (x_beatOne hF hW hR hr (by omega) ht) (fun v w2 h2 => ?_)
      obtain ⟨hv, hr2, hK2⟩ := h2
      have hX2 := g0.rug hK2 (fun q a b => by omega) (fun j hj => bea_lo ht (by omega)) (hW.bea ht) hr2
      have es := beaRow_s (y0 + j) x0 i (beaAll y0 x0 nx j (S, 0))
      rw [add_bi, ← hv] at es
      have hU2 := g2.kp hK2 (fun q hq => by unfold undP at hq; omega)
      have hK3 := g3.trans (hK2.mono (fun q hq => Or.inr hq))
      refine tp_ite (fun c => ?_) (fun c => ?_)
      · refine tp_lt (tp_lt (tp_on ⟨him, ?_, by omega, ?_, hU2, hK3⟩))
        · rw [es, if_pos c, nI_s]; rfl
        · rw [es]; exact hX2
      · refine tp_lt (tp_on ⟨him, ?_, by omega, ?_, hU2, hK3⟩)
        · rw [es, if_neg c, nI_s]; rfl
        · rw [es]; exact hX2
    · have him : i = nx := by
        by_cases q : i < nx
        · exact absurd ((nle_i (by omega) (by omega)).mpr (by omega)) hlt
        · omega
      subst him
      refine tp_lt (tp_oin ⟨hjm, ?_, by omega, g1, g2, g3⟩)
      rw [beaAll_s, nI_s]; rfl
  · have hjm : j = ny := by
      by_cases q : j < ny
      · exact absurd ((nle_i (by omega) (by omega)).mpr (by omega)) hlt
      · omega
    subst hjm
    exact tp_out ⟨rfl, g1, g2, g3⟩
theorem y_beat (hF : WF S) (hS : wI w 168 = S) (hn : n ≤ 6) (hU : MU us n w) {a b : Nat} (hA : onR S a) (hB : onR S b) : tp (sh_231 166 (nI a) (nI b) w) (fun v w' => v = (beatR S a b).2 ∧ wI w' 168 = (beatR S a b).1 ∧ MU (kepU us n S) (kepN n) w' ∧ Kp (fun q => q = 166 ∨ q = 168 ∨ q = 173) w w' ∧ Fm (fun j => j = 23 ∨ j = 0) w w') := by
  have hA' := hA.lt hF
  have hB' := hB.lt hF
  have hU1 : MU us n (sI w 166 0 0) := hU.of (wI_other (by decide)) (wI_row (by decide))
  unfold sh_231
  refine tp_stI (tp_ce (y_isTuft (m0 hS) _) (tp_if (isT_of hF hA) (tp_ce (y_isTuft (m0 hS) _) (tp_if (isT_of hF hB) (tp_cl (y_keep (m0 hS) hn hU1) (fun _ w1 h1 => ?_))))))
  obtain ⟨hU1, hK1, hF1⟩ := h1
  have hS1 : wI w1 168 = S := by rw [hK1.I (by omega)]; exact m0 hS
  have hK1 : Kp (fun q => q = 166 ∨ q = 168 ∨ q = 173) w w1 := (kp0 (P := fun q => q = 166 ∨ q = 168 ∨ q = 173) (Or.inl rfl)).trans (hK1.mono (fun q hq => by omega))
  have hF1 : Fm (fun j => j = 23 ∨ j = 0) w w1 := fun j hj => by rw [hF1 j (fun q => hj (Or.inl q)), wI_other (fun q => hj (Or.inr q))]
  rw [l12, nI_rem (by omega) (by decide) (by decide), nI_rem (by omega) (by decide) (by decide), nI_div (by omega) (by decide) (by decide), nI_div (by omega) (by decide) (by decide)]
  unfold beatR
  have fin : ∀ x0 x1 y0 y1 : Nat, x0 ≤ x1 ∧ x1 < 12 ∧ y0 ≤ y1 ∧ y1 < 12 → tp (itM (fun (s34 : Int32 × Int32) (w21 : Wd) => match s34 with | (v7_18, v8_19) => if v8_19 ≤ nI y1 then (itM (fun (s33 : Int32 × Int32) (w26 : Wd) => match s33 with | (v7_23, v9_24) => if v9_24 ≤ nI x1 then (cl (sh_232 166 ((nI 12 * v8_19) + v9_24) w26) (fun r29 w28 => lt (v7_23 + r29 : Int32) (fun v7_30 => lt (v9_24 + 1 : Int32) (fun v9_31 => some ((.inl (v7_30, v9_31) : (Int32 × Int32) ⊕ ((Int32 × Int32) ⊕ Int32)), w28))))) else (lt (v8_19 + 1 : Int32) (fun v8_32 => some (.inr (.inl (v7_23, v8_32)), w26)))) FU (v7_18, nI x0) w21) else (some (.inr (v7_18), w21))) FU (0, nI y0) w1) (fun v w' => v = (beaAll y0 x0 (x1 + 1 - x0) (y1 + 1 - y0) (S, 0)).2 ∧ wI w' 168 = (beaAll y0 x0 (x1 + 1 - x0) (y1 + 1 - y0) (S, 0)).1 ∧ MU (kepU us n S) (kepN n) w' ∧ Kp (fun q => q = 166 ∨ q = 168 ∨ q = 173) w w' ∧ Fm (fun j => j = 23 ∨ j = 0) w w') := by
    intro x0 x1 y0 y1 b1
    obtain ⟨nx, enx⟩ : ∃ x, x = x1 + 1 - x0 := ⟨_, rfl⟩
    obtain ⟨ny, eny⟩ : ∃ x, x = y1 + 1 - y0 := ⟨_, rfl⟩
    rw [← enx, ← eny]
    refine tp_it (fun j s w' => s = ((beaAll y0 x0 nx j (S, 0)).2, nI (y0 + j)) ∧ j ≤ ny ∧ wI w' 168 = (beaAll y0 x0 nx j (S, 0)).1 ∧ MU (kepU us n S) (kepN n) w' ∧ Kp (fun q => q = 166 ∨ q = 168 ∨ q = 173) w w' ∧ Fm (fun j => j = 23 ∨ j = 0) w w') ny (by omega) ⟨rfl, Nat.zero_le _, hS1, hU1, hK1, hF1⟩ (fun j s w' hI => ?_)
    obtain ⟨e, hj, g1, g2, g3, g4⟩ := hI
    subst e
    refine tp_ite (fun hlt => ?_) (fun hlt => ?_)
    · have hjm : j < ny := by
        have := (nle_i (by omega) (by omega)).mp hlt
        omega
      refine tp_it (fun i s w' => s = ((beaRow (y0 + j) x0 i (beaAll y0 x0 nx j (S, 0))).2, nI (x0 + i)) ∧ i ≤ nx ∧ wI w' 168 = (beaRow (y0 + j) x0 i (beaAll y0 x0 nx j (S, 0))).1 ∧ MU (kepU us n S) (kepN n) w' ∧ Kp (fun q => q = 166 ∨ q = 168 ∨ q = 173) w w' ∧ Fm (fun j => j = 23 ∨ j = 0) w w') nx (by omega) ⟨rfl, Nat.zero_le _, g1, g2, g3, g4⟩ (fun i s w' hI => ?_)
      clear g1 g2 g3 g4
      obtain ⟨e, hi, g1, g2, g3, g4⟩ := hI
      subst e
      refine tp_ite (fun hlt => ?_) (fun hlt => ?_)
      · have him : i < nx := by
          have := (nle_i (by omega) (by omega)).mp hlt
          omega
        have ht : 12 * (y0 + j) + (x0 + i) < 144 := by omega
        rw [nI_m, nI_p]
        refine tp_cl (y_beats (o := 166) g1 ht) (fun v w2 h2 => ?_)
        obtain ⟨hv, hS2, hK2⟩ := h2
        subst hv
        refine tp_lt (tp_lt (tp_on ⟨him, ?_, by omega, hS2, g2.of (by rw [hK2.I (by omega)]) (by rw [hK2.I (by omega)]), g3.trans (hK2.mono (fun q hq => by omega)), fun j hj => by rw [hK2.I (by omega)]; exact g4 j hj⟩))
        rw [nI_s]; rfl
      · have him : i = nx := by
          by_cases q : i < nx
          · exact absurd ((nle_i (by omega) (by omega)).mpr (by omega)) hlt
          · omega
        subst him
        refine tp_lt (tp_oin ⟨hjm, ?_, by omega, g1, g2, g3, g4⟩)
        rw [beaAll_s, nI_s]; rfl
    · have hjm : j = ny := by
        by_cases q : j < ny
        · exact absurd ((nle_i (by omega) (by omega)).mpr (by omega)) hlt
        · omega
      subst hjm
      exact tp_out ⟨rfl, g1, g2, g3, g4⟩
  refine tp_jn ?_
  have step : ∀ x0 x1 : Nat, x0 = min (a % 12) (b % 12) → x1 = max (a % 12) (b % 12) → tp (lt ((nI (a % 12) + nI (b % 12)) - nI x0 : Int32) (fun v4_13 => jn (fun (t15 : Int32) (w16 : Wd) => lt ((nI (a / 12) + nI (b / 12)) - t15 : Int32) (fun v6_17 => itM (fun (s34 : Int32 × Int32) (w21 : Wd) => match s34 with | (v7_18, v8_19) => if v8_19 ≤ v6_17 then (itM (fun (s33 : Int32 × Int32) (w26 : Wd) => match s33 with | (v7_23, v9_24) => if v9_24 ≤ v4_13 then (cl (sh_232 166 ((nI 12 * v8_19) + v9_24) w26) (fun r29 w28 => lt (v7_23 + r29 : Int32) (fun v7_30 => lt (v9_24 + 1 : Int32) (fun v9_31 => some ((.inl (v7_30, v9_31) : (Int32 × Int32) ⊕ ((Int32 × Int32) ⊕ Int32)), w28))))) else (lt (v8_19 + 1 : Int32) (fun v8_32 => some (.inr (.inl (v7_23, v8_32)), w26)))) FU (v7_18, nI x0) w21) else (some (.inr (v7_18), w21))) FU (0, t15) w16)) (fun j14 => if nI (a / 12) < nI (b / 12) then (j14 (nI (a / 12)) w1) else (j14 (nI (b / 12)) w1)))) (fun v w' => v = (beaAll (min (a / 12) (b / 12)) (min (a % 12) (b % 12)) (max (a % 12) (b % 12) + 1 - min (a % 12) (b % 12)) (max (a / 12) (b / 12) + 1 - min (a / 12) (b / 12)) (S, 0)).2 ∧ wI w' 168 = (beaAll (min (a / 12) (b / 12)) (min (a % 12) (b % 12)) (max (a % 12) (b % 12) + 1 - min (a % 12) (b % 12)) (max (a / 12) (b / 12) + 1 - min (a / 12) (b / 12)) (S, 0)).1 ∧ MU (kepU us n S) (kepN n) w' ∧ Kp (fun q => q = 166 ∨ q = 168 ∨ q = 173) w w' ∧ Fm (fun j => j = 23 ∨ j = 0) w w') := by
    intro x0 x1 e0 e1
    rw [← e0, ← e1, nI_p, pk_sub (by omega), show a % 12 + b % 12 - x0 = x1 by omega]
    refine tp_lt (tp_jn (tp_ite (fun c => ?_) (fun c => ?_)))
    · have c' := (nlt_i (by omega) (by omega)).mp c
      show tp (lt (nI (a / 12) + nI (b / 12) - nI (a / 12)) _) _
      rw [nI_p, pk_sub (by omega), show min (a / 12) (b / 12) = a / 12 by omega, show max (a / 12) (b / 12) = b / 12 by omega, show a / 12 + b / 12 - a / 12 = b / 12 by omega]
      exact tp_lt (fin x0 x1 (a / 12) (b / 12) (by omega))
    · have c' : ¬ a / 12 < b / 12 := fun q => c (nlt q (by omega))
      show tp (lt (nI (a / 12) + nI (b / 12) - nI (b / 12)) _) _
      rw [nI_p, pk_sub (by omega), show min (a / 12) (b / 12) = b / 12 by omega, show max (a / 12) (b / 12) = a / 12 by omega, show a / 12 + b / 12 - b / 12 = a / 12 by omega]
      exact tp_lt (fin x0 x1 (b / 12) (a / 12) (by omega))
  refine tp_ite (fun c => ?_) (fun c => ?_)
  · have c' := (nlt_i (by omega) (by omega)).mp c
    exact step (a % 12) (b % 12) (by omega) (by omega)
  · have c' : ¬ a % 12 < b % 12 := fun q => c (nlt q (by omega))
    exact step (b % 12) (a % 12) (by omega) (by omega)
end AC
