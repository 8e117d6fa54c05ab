/-! a WAY's STEPS -/
def stpW (S : Nat → Int32) (t d : Nat) : Option Nat := match beN S t d with
  | none => none
  | some u => if S (25 + u) = 1 then none else some u
def itW (S : Nat → Int32) (t d : Nat) : Nat → Option Nat
  | 0 => some t
  | k + 1 => match itW S t d k with
    | none => none
    | some u => stpW S u d
/-- the TUFTS told with these STEPS -/
def extW (S : Nat → Int32) (T : Nat → Nat) (g d : Nat) : Nat → Nat := fun i => if i ≤ g then T i else (itW S (T g) d (i - g)).getD 0
def XWY (S : Nat → Int32) (k g : Nat) (T : Nat → Nat) (o : Nat) (w : Wd) : Prop := HR S w o ∧ wI w (o + 6) k = nI (g + 1) ∧ ∀ i, i ≤ g → wI w (o + 7) (41 * k + i) = nI (T i)
def YWY (S : Nat → Int32) (k g : Nat) (T : Nat → Nat) (w : Wd) : Prop := (∀ i, i ≤ g → wI w 169 (183 + 41 * k + i) = nI (T i)) ∧ ∀ j, j < 183 + 41 * k → wI w 169 j = S j
section WA
variable {S : Nat → Int32} {w w' : Wd} {o k g d far n lim m i : Nat} {b : Nat → Nat} {T : Nat → Nat}
theorem itW_mono {t : Nat} : ∀ {a c : Nat}, itW S t d a = none → a ≤ c → itW S t d c = none := by
  intro a c h hc
  induction c with
  | zero => rw [show a = 0 by omega] at h; exact h
  | succ c ih =>
    by_cases q : a = c + 1
    · rw [← q]; exact h
    · show (match itW S t d c with | none => none | some u => stpW S u d) = none
      rw [ih (by omega)]
theorem stp_on (hF : WF S) {t u : Nat} (ho : onR S t) (h : stpW S t d = some u) : onR S u := by
  unfold stpW at h
  cases hb : beN S t d with
  | none => rw [hb] at h; cases h
  | some v =>
    rw [hb] at h
    dsimp only at h
    split at h
    · cases h
    · cases h; exact (beN_on hF ho hb).1
theorem itW_on (hF : WF S) {t : Nat} (ho : onR S t) : ∀ {a u : Nat}, itW S t d a = some u → onR S u := by
  intro a
  induction a with
  | zero => intro u h; cases h; exact ho
  | succ a ih =>
    intro u h
    have h' : (match itW S t d a with | none => none | some u => stpW S u d) = some u := h
    cases hb : itW S t d a with
    | none => rw [hb] at h'; cases h'
    | some v => rw [hb] at h'; exact stp_on hF (ih hb) h'
theorem itW_s {t : Nat} {a : Nat} {u : Nat} (h : itW S t d a = some u) : itW S t d (a + 1) = stpW S u d := by
  show (match itW S t d a with | none => none | some u => stpW S u d) = _
  rw [h]
theorem x_wallE (hF : WF S) (hR : HR S w o) {t : Nat} (ht : onR S t) (hd : d < 4) : sh_50 o (eNone (beN S t d)) w = some (decide (stpW S t d = none ∧ ¬ beN S t d = none), w) := by
  rw [x_isWall hF hR]
  congr 2
  cases hb : beN S t d with
  | none => rw [decide_eq_false (fun z => z.2 rfl)]; rfl
  | some v =>
    have hv := (beN_on hF ht hb).2
    unfold isWl stpW
    rw [hb]
    show (decide (0 ≤ nI v) && (decide (nI v < 144) && decide (S (25 + ix (nI v)) = 1))) = _
    rw [decide_eq_true (n0le (by omega)), decide_eq_true (show nI v < 144 from nlt (b := 144) hv (by decide)), ix_nI (by omega), Bool.true_and, Bool.true_and]
    refine decide_eq_decide.mpr ⟨fun q => ⟨by dsimp only; rw [if_pos q], fun z => by cases z⟩, fun z => ?_⟩
    have z1 := z.1
    dsimp only at z1
    by_cases y : S (25 + v) = 1
    · exact y
    · rw [if_neg y] at z1; cases z1
/-- the class looks along the STEPS -/
theorem x_reach (hF : WF S) (hR : HR S w o) {t : Nat} (ht : onR S t) (hd : d < 4) (hf : far < 1000) : sh_54 o (nI t) (nI d) (nI far) w = some (eNone (itW S t d far), w) := by
  refine tp_q ?_
  unfold sh_54
  refine tp_it (fun j s w' => w' = w ∧ s = (eNone (itW S t d j), nI j) ∧ j ≤ far) far (by omega) ⟨rfl, rfl, by omega⟩ (fun j s w' hI => ?_)
  obtain ⟨ew, es, hj⟩ := hI
  subst es
  rw [ew]
  dsimp only
  by_cases q : j < far
  · refine tp_if (nlt q (by omega)) ?_
    cases hb : itW S t d j with
    | none =>
      refine tp_if rfl (tp_out ⟨?_, rfl⟩)
      rw [itW_mono hb (by omega)]
    | some u =>
      have hu := itW_on hF ht hb
      have hu2 := hu.lt hF
      refine tp_ifn (n_m1 (by omega)) ?_
      refine tp_ce (x_stepFrom hF hR hu hd) (tp_ce (x_wallE hF hR hu hd) ?_)
      have e1 := itW_s hb
      rw [nI_s]
      by_cases y : stpW S u d = none ∧ ¬ beN S u d = none
      · refine tp_if (decide_eq_true y) (tp_lt (tp_on ⟨q, rfl, ?_, by omega⟩))
        rw [e1, y.1]; rfl
      · refine tp_ifn (by rw [decide_eq_false y]; decide) (tp_lt (tp_on ⟨q, rfl, ?_, by omega⟩))
        rw [e1]
        unfold stpW at y ⊢
        cases hc : beN S u d with
        | none => rfl
        | some v =>
          rw [hc] at y
          dsimp only at y ⊢
          by_cases z : S (25 + v) = 1
          · rw [if_pos z] at y
            exact absurd ⟨rfl, fun z => by cases z⟩ y
          · rw [if_neg z]
  · have : j = far := by omega
    subst this
    exact tp_ifn (nnlt (by omega) (by omega)) (tp_out ⟨rfl, rfl⟩)
theorem x_lenW {L : Nat} (e6 : wI w (o + 6) k = nI L) (hL : L < 41) (hk : k < 6) (p : Int32) : sh_51 o (nI k) p w = some ((), sI (sI w (o + 7) (41 * k + L) p) (o + 6) k (nI (L + 1))) := by
  have hib : ib (nI k) 6 = true := ib_nI hk (by decide)
  unfold sh_51
  rw [if_pos (n0le (by omega)), if_pos (show nI k < 6 from nlt (b := 6) hk (by decide)), gd_t hib, ix_nI (by omega), e6, if_pos (n0le (by omega)), gd_t hib, if_pos (show nI L < 41 from nlt (b := 41) hL (by decide)), gd_t hib, l41, nI_m, nI_p, gd_nI (by omega) (by decide), stI_s, gd_t hib, gd_t hib, ix_nI (by omega), wI_row (by omega), e6, nI_s, stI_s, show k * 41 + L = 41 * k + L by omega]
theorem HR.way {w' : Wd} (hR : HR S w o) (hF : WF S) (ek : S 3 = nI k) (hk : k < 6) (kx : Kp (fun q => q = o + 6 ∨ q = o + 7) w w') (e6 : ∀ j, ¬ j = k → wI w' (o + 6) j = wI w (o + 6) j) (e7 : ∀ j, j < 41 * k → wI w' (o + 7) j = wI w (o + 7) j) : HR S w' o := by
  have w10 := hF.2.2.2.2.2.2.2.2.2
  obtain ⟨c0, c1, c2, c3, c4, c5, c6, c7, c8, c9, c10⟩ := hR
  have e := kx.I (k := o) (by omega)
  have ixk : ix (S 3) = k := by rw [ek, ix_nI (by omega)]
  refine ⟨by rw [e]; exact c0, by rw [e]; exact c1, by rw [e]; exact c2, by rw [e]; exact c3, by rw [e]; exact c4, by rw [e]; exact c5, by rw [e]; exact c6, fun k hk => ?_, fun t ht => ?_, fun k hk => ?_, fun q hq => ?_⟩
  · rw [kx.I (by omega), kx.I (by omega), kx.I (by omega)]; exact c7 k hk
  · rw [kx.I (by omega)]; exact c8 t ht
  · rw [kx.I (by omega)]; exact c9 k hk
  · obtain ⟨n, en, h1, h2, -⟩ := w10 q hq
    rw [ixk] at hq
    rw [e6 _ (by omega)]
    refine ⟨(c10 q (by omega)).1, fun i hi => ?_⟩
    have := (c10 q (by omega)).2 i hi
    rw [en, ix_nI (by omega)] at hi
    rw [e7 _ (by omega)]
    exact this
/-- one TUFT more, the class -/
theorem XWY.more (hF : WF S) (ek : S 3 = nI k) (hk : k < 6) (h : XWY S k g T o w) (hg : g < 40) {T' : Nat → Nat} (hT : ∀ i, i ≤ g → T' i = T i) : tp (sh_51 o (nI k) (nI (T' (g + 1))) w) (fun _ w' => XWY S k (g + 1) T' o w' ∧ Kp (fun q => q = o + 6 ∨ q = o + 7) w w') := by
  obtain ⟨h1, h2, h3⟩ := h
  refine tp_eq (x_lenW h2 (by omega) hk _) ?_
  have kx : Kp (fun q => q = o + 6 ∨ q = o + 7) w (sI (sI w (o + 7) (41 * k + (g + 1)) (nI (T' (g + 1)))) (o + 6) k (nI (g + 1 + 1))) := (kp0 (P := fun q => q = o + 6 ∨ q = o + 7) (Or.inr rfl)).sI (Or.inl rfl) _ _
  refine ⟨⟨h1.way hF ek hk kx (fun j hj => ?_) (fun j hj => ?_), wI_same, fun i hi => ?_⟩, kx⟩
  · rw [wI_other hj, wI_row (by omega)]
  · rw [wI_row (by omega), wI_other (by omega)]
  · rw [wI_row (by omega)]
    by_cases q : i = g + 1
    · rw [q, wI_same]
    · rw [wI_other (by omega), h3 i (by omega), hT i (by omega)]
theorem ext_at {a u : Nat} (h : itW S (T g) d a = some u) : extW S T g d (g + a) = u := by
  unfold extW
  by_cases q : a = 0
  · subst q
    rw [if_pos (by omega)]
    have : some (T g) = some u := h
    exact Option.some.inj this
  · rw [if_neg (by omega), show g + a - g = a by omega, h]; rfl
theorem ext_lo {i : Nat} (h : i ≤ g) : extW S T g d i = T i := if_pos h
/-- the class goes them -/
theorem x_lays {α : Type} (hF : WF S) (ek : S 3 = nI k) (hk : k < 6) (hd : d < 4) (hg : g + far ≤ 40) (ho : onR S (T g)) {u : Nat} (hu : itW S (T g) d far = some u) (h : XWY S k g T o w) {E : Int32 → Wd → Option (((Int32 × Int32) ⊕ α) × Wd)} {Q : α → Wd → Prop} (hE : ∀ w', XWY S k (g + far) (extW S T g d) o w' → Kp (fun q => q = o + 6 ∨ q = o + 7) w w' → tp (E (nI u) w') (fun r w2 => ∃ v, r = .inr v ∧ Q v w2)) : tp (itM (fun (s39 : Int32 × Int32) (w29 : Wd) => match s39 with | (v4_26, v9_27) => if v9_27 < nI far then (cl (sh_55 o v4_26 (nI d) w29) (fun r32 w31 => cl (sh_51 o (nI k) r32 w31) (fun _ w33 => lt (v9_27 + 1 : Int32) (fun v9_35 => some (.inl (r32, v9_35), w33))))) else E v4_26 w29) FU (nI (T g), 0) w) Q := by
  refine tp_it (fun j s w' => ∃ t, itW S (T g) d j = some t ∧ s = (nI t, nI j) ∧ j ≤ far ∧ XWY S k (g + j) (extW S T g d) o w' ∧ Kp (fun q => q = o + 6 ∨ q = o + 7) w w') far (by omega) ⟨T g, rfl, rfl, by omega, ⟨h.1, h.2.1, fun i hi => by rw [ext_lo (show i ≤ g from hi)]; exact h.2.2 i hi⟩, Kp.refl⟩ (fun j s w' hI => ?_)
  obtain ⟨t, et, es, hj, hx, kx⟩ := hI
  subst es
  dsimp only
  by_cases q : j < far
  · have ht := itW_on hF ho et
    refine tp_if (nlt q (by omega)) (tp_ce (x_stepFrom hF hx.1 ht hd) ?_)
    have e1 := itW_s et
    cases hv : itW S (T g) d (j + 1) with
    | none => rw [itW_mono hv (by omega)] at hu; cases hu
    | some v =>
      have eb : beN S t d = some v := by
        rw [hv] at e1
        unfold stpW at e1
        cases hb : beN S t d with
        | none => rw [hb] at e1; cases e1
        | some c =>
          rw [hb] at e1
          dsimp only at e1
          split at e1
          · cases e1
          · cases e1; rfl
      rw [eb]
      have ea := ext_at hv
      have := hx.more hF ek hk (by omega) (T' := extW S T g d) (fun i _ => rfl)
      rw [show g + j + 1 = g + (j + 1) by omega, ea] at this
      refine tp_cl this (fun _ w2 g2 => ?_)
      rw [nI_s]
      exact tp_lt (tp_on ⟨q, v, rfl, rfl, by omega, g2.1, kx.trans g2.2⟩)
  · have : j = far := by omega
    subst this
    have : t = u := by rw [hu] at et; exact (Option.some.inj et).symm
    subst this
    refine tp_ifn (nnlt (by omega) (by omega)) (tp_mono (hE w' hx kx) (fun r w2 hr => ?_))
    obtain ⟨v, ev, hq⟩ := hr
    rw [ev]; exact hq
/-- the reference goes them, or is refused at one -/
theorem y_lays (hF : WF S) (hk : k < 6) (hd : d < 4) (hg : g + far ≤ 40) (ho : onR S (T g)) (hY : YS n b lim m i w) (hT : TM n b (min n lim) m) (e14 : wI w 166 14 = nI far) (h : YWY S k g T w) : tp (itM (fun (s60 : Int32 × Int32) (w45 : Wd) => match s60 with | (v3_42, v5_43) => if v5_43 < wI w45 166 14 then (gd (ib (((nI (183 + 41 * k)) + v3_42) - 1) 429) (gd (ib 0 429) (gd (ib 1 429) (cl (sh_207 (wI w45 (166 + 3) (ix (((nI (183 + 41 * k)) + v3_42) - 1))) (nI d) (wI w45 (166 + 3) (ix 0)) (wI w45 (166 + 3) (ix 1)) w45) (fun r48 w47 => if 0 ≤ r48 then (gd (ib (25 + r48) 429) (if wI w47 (166 + 3) (ix (25 + r48)) = 1 then (cl (sh_197 166 5 w47) (fun r52 w51 => some (.inr (.inr (r52)), w51))) else (gd (ib ((nI (183 + 41 * k)) + v3_42) 429) (stI w47 (166 + 3) (ix ((nI (183 + 41 * k)) + v3_42)) r48 (fun w53 => lt (v3_42 + 1 : Int32) (fun v3_54 => lt (v5_43 + 1 : Int32) (fun v5_55 => some (.inl (v3_54, v5_55), w53)))))))) else (cl (sh_197 166 5 w47) (fun r57 w56 => some (.inr (.inr (r57)), w56)))))))) else (cl (sh_191 166 w45) (fun _ w58 => some (.inr (.inl v3_42), w58)))) FU (nI (g + 1), 0) w) (fun r w' => (∃ u, itW S (T g) d far = some u ∧ r = .inl (nI (g + far + 1)) ∧ YS n b lim m (nextN m i) w' ∧ YWY S k (g + far) (extW S T g d) w' ∧ FY w w' ∧ wI w' 166 20 = wI w 166 20 ∧ wI w' 166 21 = wI w 166 21 ∧ wL w' 171 = wL w 171) ∨ (itW S (T g) d far = none ∧ r = (.inr false : Int32 ⊕ Bool) ∧ ∃ w2, w' = yBad 5 (atB n b lim m i) w2 ∧ FY w w2)) := by
  refine tp_it (fun j s w' => ∃ t, itW S (T g) d j = some t ∧ s = (nI (g + 1 + j), nI j) ∧ j ≤ far ∧ YWY S k (g + j) (extW S T g d) w' ∧ Kp (fun q => q = 169) w w') far (by omega) ⟨T g, rfl, rfl, by omega, ⟨fun i hi => by rw [ext_lo (show i ≤ g from hi)]; exact h.1 i hi, h.2⟩, Kp.refl⟩ (fun j s w' hI => ?_)
  obtain ⟨t, et, es, hj, hx, kx⟩ := hI
  subst es
  dsimp only
  rw [kx.I (by decide), e14]
  have hY' : YS n b lim m i w' := hY.kp kx (by decide) (by decide) (by decide)
  by_cases q : j < far
  · have ht := itW_on hF ho et
    have ht2 := ht.lt hF
    obtain ⟨W, H, e0, e1, hW, hH⟩ := hF.1
    have ea := ext_at et
    refine tp_if (nlt q (by omega)) ?_
    rw [nI_p, l1, n_sub (by omega), ix_nI (by omega), show 183 + 41 * k + (g + 1 + j) - 1 = 183 + 41 * k + (g + j) by omega]
    refine tp_gd (ib_nI (by omega) (by decide)) (tp_gd (by decide) (tp_gd (by decide) ?_))
    rw [show wI w' (166 + 3) (183 + 41 * k + (g + j)) = nI t by rw [show wI w' (166 + 3) = wI w' 169 from rfl, hx.1 _ (Nat.le_refl _), ea], show wI w' (166 + 3) (ix 0) = nI W by rw [show wI w' (166 + 3) (ix 0) = wI w' 169 0 from rfl, hx.2 0 (by omega), e0], show wI w' (166 + 3) (ix (nI 1)) = nI H by rw [show wI w' (166 + 3) (ix (nI 1)) = wI w' 169 1 from rfl, hx.2 1 (by omega), e1]]
    have eb : beW W H t d = beN S t d := by unfold beN; rw [e0, e1, ix_nI (by omega), ix_nI (by omega)]
    refine tp_ce (y_besideOf hW hH ht2 hd) ?_
    rw [eb]
    have es := itW_s et
    have refused : itW S (T g) d (j + 1) = none → ∀ w2, w2 = yBad 5 (atB n b lim m i) w' → ((∃ u, itW S (T g) d far = some u ∧ (.inr false : Int32 ⊕ Bool) = .inl (nI (g + far + 1)) ∧ YS n b lim m (nextN m i) w2 ∧ YWY S k (g + far) (extW S T g d) w2 ∧ FY w w2 ∧ wI w2 166 20 = wI w 166 20 ∧ wI w2 166 21 = wI w 166 21 ∧ wL w2 171 = wL w 171) ∨ (itW S (T g) d far = none ∧ (.inr false : Int32 ⊕ Bool) = .inr false ∧ ∃ w3, w2 = yBad 5 (atB n b lim m i) w3 ∧ FY w w3)) := fun hn w2 e2 => Or.inr ⟨itW_mono hn (by omega), rfl, w', e2, FY.h kx⟩
    unfold stpW at es
    cases hb : beN S t d with
    | none =>
      rw [hb] at es
      exact tp_ifn m1_n0 (tp_ce (y_bad hY'.1 5) (tp_out (refused es _ rfl)))
    | some v =>
      rw [hb] at es
      have hv := (beN_on hF ht hb).2
      rw [show eNone (some v) = nI v from rfl]
      refine tp_if (n0le (by omega)) ?_
      rw [l25, nI_p]
      refine tp_gd (ib_nI (by omega) (by decide)) ?_
      rw [ix_nI (by omega), show wI w' (166 + 3) (25 + v) = S (25 + v) from hx.2 _ (by omega)]
      dsimp only at es
      by_cases z : S (25 + v) = 1
      · rw [if_pos z] at es
        exact tp_if z (tp_ce (y_bad hY'.1 5) (tp_out (refused es _ rfl)))
      · rw [if_neg z] at es
        refine tp_ifn z (tp_gd (ib_nI (by omega) (by decide)) (tp_stG (fun w2 e2 k2 => tp_lt (tp_lt (tp_on ⟨q, v, es, ?_, by omega, ⟨fun i hi => ?_, fun j hj => ?_⟩, kx.trans k2⟩)))))
        · rw [nI_p, nI_p]; rfl
        · rw [show wI w2 169 = wI w2 (166 + 3) from rfl, e2, ix_nI (by omega)]
          have ea2 := ext_at es
          by_cases y : i = g + (j + 1)
          · rw [y, show 183 + 41 * k + (g + (j + 1)) = 183 + 41 * k + (g + 1 + j) by omega, up_s, ea2]
          · rw [up_o (by omega)]
            exact hx.1 i (by omega)
        · rw [show wI w2 169 = wI w2 (166 + 3) from rfl, e2, ix_nI (by omega), up_o (by omega)]
          exact hx.2 j hj
  · have : j = far := by omega
    subst this
    refine tp_ifn (nnlt (by omega) (by omega)) (tp_cl (ys_go hY' hT) (fun _ w2 g2 => tp_out ?_))
    refine Or.inl ⟨t, et, by rw [show g + 1 + j = g + j + 1 by omega], g2.1, ?_, (FY.h kx).trans (FY.f g2.2.1 g2.2.2 (fun j hj => Or.inl hj)), ?_, ?_, ?_⟩
    · refine ⟨fun i hi => ?_, fun j hj => ?_⟩
      · rw [g2.2.1.I (by decide)]; exact hx.1 i hi
      · rw [g2.2.1.I (by decide)]; exact hx.2 j hj
    · rw [g2.2.2 20 (by unfold nxF; omega), kx.I (by decide)]
    · rw [g2.2.2 21 (by unfold nxF; omega), kx.I (by decide)]
    · rw [g2.2.1.L (by decide), kx.L (by decide)]
end WA
