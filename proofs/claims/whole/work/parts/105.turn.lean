/-! one way more laid: the step back by one place; the class's turn and fill -/
section TU
variable {S : Nat → Int32} {op : Nat → Prop} {s e : Nat} {f f0 : Nat → Nat → Prop} {c c0 : Nat → Prop} {w : Wd} {o h : Nat} {n : Int}
/-- what a step back from p to q does to the flow -/
def stepF (s e p q : Nat) (f : Nat → Nat → Prop) (c : Nat → Prop) (f' : Nat → Nat → Prop) (c' : Nat → Prop) : Prop :=
  (∃ u v, q = 2 * u + 1 ∧ p = 2 * v ∧ ¬ u = v ∧ f' = upF f u v True ∧ c' = c) ∨ (∃ u v, q = 2 * v ∧ p = 2 * u + 1 ∧ ¬ u = v ∧ f' = upF f u v False ∧ c' = c) ∨
  (∃ t, q = 2 * t ∧ p = 2 * t + 1 ∧ ¬ t = s ∧ ¬ t = e ∧ f' = f ∧ c' = upC c t True) ∨ (∃ t, q = 2 * t + 1 ∧ p = 2 * t ∧ ¬ t = s ∧ ¬ t = e ∧ f' = f ∧ c' = upC c t False)
theorem beN_ne {t d u : Nat} (e1 : beN S t d = some u) : ¬ t = u := by
  intro z
  subst z
  unfold beN beW at e1
  split at e1
  · split at e1
    · have := Option.some.inj e1; omega
    · cases e1
  · split at e1
    · split at e1
      · have := Option.some.inj e1; omega
      · cases e1
    · split at e1
      · split at e1
        · have := Option.some.inj e1; omega
        · cases e1
      · split at e1
        · have := Option.some.inj e1; omega
        · cases e1
theorem step_back (h0 : FLW S op s e f0 c0 n) (hop : ∀ t, op t → t < 144) {que : Nat → Nat} {j j' m : Nat} (hj : j < m) (hj' : j' < j) (inj : ∀ a b, a < m → b < m → que a = que b → a = b) (hr : rsx S op s e f0 c0 (que j') (que j)) (hD : DEF S op s e n (que j) f c) (hA : asW que j f f0 c c0) (h1 : ¬ que j = 2 * s) (h2 : ¬ que j = 2 * s + 1) (h3 : ¬ que j = 2 * e + 1) : ∃ f' c', stepF s e (que j) (que j') f c f' c' ∧ DEF S op s e n (que j') f' c' ∧ asW que j' f' f0 c' c0 ∧ ¬ que j' = 2 * s := by
  have hq : ¬ que j' = 2 * s := by
    intro z
    rw [z] at hr
    rcases hr with hr | hr
    · exact rsd_s h0 hr
    · omega
  have far : ∀ i, i < j' → ¬ que i = que j ∧ ¬ que i = que j' := fun i hi => ⟨fun z => by have := inj i j (by omega) hj z; omega, fun z => by have := inj i j' (by omega) (by omega) z; omega⟩
  have keep : asW que j' f f0 c c0 := fun i hi => hA i (by omega)
  rcases hr with (⟨u, v, e1, e2, g1, g2, g3, g4, g5, g6, g7, g8⟩ | ⟨u, v, e1, e2, g1, g2, g3⟩ | ⟨t, e1, e2, g1, g2, g3, g4, g5⟩ | ⟨t, e1, e2, g1, g2, g3, g4⟩) | ⟨e1, e2⟩
  · have hnf : ¬ f u v := fun z => g8 (((hA j' hj').1 u v (Or.inl e1)).mp z)
    rw [e2] at hD
    have huv : ¬ u = v := by obtain ⟨d, -, z⟩ := g3; exact beN_ne z
    refine ⟨upF f u v True, c, Or.inl ⟨u, v, e1, e2, huv, rfl, rfl⟩, by rw [e1]; exact hD.fwd g1 g2 g3 g4 g5 g6 g7 hnf, fun i hi => ⟨fun a b hab => ?_, (keep i hi).2⟩, hq⟩
    obtain ⟨k1, k2⟩ := far i hi
    exact (upF_o (fun z => by omega)).trans ((keep i hi).1 a b hab)
  · have hf : f u v := ((hA j' hj').1 u v (Or.inr e1)).mpr g3
    rw [e2] at hD
    have huv : ¬ u = v := by obtain ⟨d, -, z⟩ := (h0.1 u v g3).1; exact beN_ne z
    refine ⟨upF f u v False, c, Or.inr (Or.inl ⟨u, v, e1, e2, huv, rfl, rfl⟩), by rw [e1]; exact hD.bck g1 g2 (fun z => h2 (by rw [e2, z])) hf, fun i hi => ⟨fun a b hab => ?_, (keep i hi).2⟩, hq⟩
    obtain ⟨k1, k2⟩ := far i hi
    exact (upF_o (fun z => by omega)).trans ((keep i hi).1 a b hab)
  · have hc : ¬ c t := fun z => g5 (((hA j' hj').2 t (Or.inl e1)).mp z)
    rw [e2] at hD
    refine ⟨f, upC c t True, Or.inr (Or.inr (Or.inl ⟨t, e1, e2, g2, g3, rfl, rfl⟩)), by rw [e1]; exact hD.ovr g2 g3 hc, fun i hi => ⟨(keep i hi).1, fun a ha => ?_⟩, hq⟩
    obtain ⟨k1, k2⟩ := far i hi
    exact (upC_o (fun z => by omega)).trans ((keep i hi).2 a ha)
  · have hc : c t := ((hA j' hj').2 t (Or.inr e1)).mpr g4
    rw [e2] at hD
    refine ⟨f, upC c t False, Or.inr (Or.inr (Or.inr ⟨t, e1, e2, g2, g3, rfl, rfl⟩)), by rw [e1]; exact hD.off g2 g3 hc, fun i hi => ⟨(keep i hi).1, fun a ha => ?_⟩, hq⟩
    obtain ⟨k1, k2⟩ := far i hi
    exact (upC_o (fun z => by omega)).trans ((keep i hi).2 a ha)
  · exact absurd e2 h1
theorem x_setFlow (hF : WF S) (hR : HR S w h) (hh : h + 9 < o) {u v : Nat} (hu : onR S u) (hv : v < 144) (b : Bool) (hf : FAr S w (o + 3) f) : tp (sh_149 o h (nI u) (nI v) b w) (fun _ w' => FAr S w' (o + 3) (upF f u v (b = true)) ∧ Kp (fun q => q = o + 3) w w') := by
  have hu8 := hu.lt hF
  unfold sh_149
  refine tp_it (fun d s' w' => s' = nI d ∧ d ≤ 4 ∧ (∀ a b' d', onR S a → d' < 4 → beN S a d' = some b' → (a = u ∧ d' < d ∧ b' = v → wI w' (o + 3) (4 * a + d') = bi b) ∧ (¬ (a = u ∧ d' < d ∧ b' = v) → wI w' (o + 3) (4 * a + d') = wI w (o + 3) (4 * a + d'))) ∧ Kp (fun q => q = o + 3) w w') 4 (by omega) ⟨rfl, Nat.zero_le _, fun a b' d' _ _ _ => ⟨fun z => by omega, fun _ => rfl⟩, Kp.refl⟩ (fun d s' w' hI => ?_)
  obtain ⟨es, hd, g1, gK⟩ := hI
  subst es
  refine tp_ite (fun hlt => ?_) (fun hlt => ?_)
  · have hd4 : d < 4 := (nlt_i (by omega) (by decide)).mp (show nI d < nI 4 from hlt)
    refine tp_if (n0le (by omega)) (tp_if (show nI u < (144 : Int32) from nlt (b := 144) hu8 (by decide)) (tp_ce (x_stepFrom hF (hR.kp gK (fun q a b => by omega)) hu hd4) ?_))
    rw [nI_s]
    refine tp_ite (fun z => ?_) (fun z => ?_)
    · have hb : beN S u d = some v := by
        cases hb : beN S u d with
        | none =>
          rw [hb] at z
          have : nI v = -1 := z.symm
          rw [i_eq, i_nI (by omega)] at this
          have : (v : Int) = -1 := this
          omega
        | some x =>
          rw [hb] at z
          have hx := (beN_on hF hu hb).2
          have : x = v := (nI_eq (by omega) (by omega)).mp z
          rw [this]
      rw [l4, nI_m, nI_p, ix_nI (by omega), Nat.mul_comm u 4]
      refine tp_gd (ib_nI (by omega) (by decide)) (tp_stI (tp_lt (tp_on ⟨hd4, rfl, by omega, fun a b' d' ha hd' e1 => ?_, gK.sI rfl _ _⟩)))
      rw [wI_up]
      unfold up
      obtain ⟨k1, k2⟩ := g1 a b' d' ha hd' e1
      by_cases q : a = u ∧ d' = d
      · obtain ⟨q1, q2⟩ := q
        subst q1; subst q2
        rw [if_pos rfl]
        refine ⟨fun _ => rfl, fun y => absurd ⟨rfl, by omega, ?_⟩ y⟩
        rw [hb] at e1
        exact (Option.some.inj e1).symm
      · rw [if_neg (by omega)]
        exact ⟨fun y => k1 ⟨y.1, by omega, y.2.2⟩, fun y => k2 (fun x => y ⟨x.1, by omega, x.2.2⟩)⟩
    · refine tp_lt (tp_on ⟨hd4, rfl, by omega, fun a b' d' ha hd' e1 => ?_, gK⟩)
      obtain ⟨k1, k2⟩ := g1 a b' d' ha hd' e1
      refine ⟨fun y => k1 ⟨y.1, ?_, y.2.2⟩, fun y => k2 (fun x => y ⟨x.1, by omega, x.2.2⟩)⟩
      by_cases q : d' = d
      · exfalso
        rw [y.1, q, y.2.2] at e1
        rw [e1] at z
        exact z rfl
      · omega
  · have hd4 : d = 4 := by
      by_cases q : d < 4
      · exact absurd (nlt q (by decide) : nI d < nI 4) hlt
      · omega
    subst hd4
    refine tp_out ⟨fun a b' d' ha hb' hd' e1 => ?_, gK⟩
    obtain ⟨k1, k2⟩ := g1 a b' d' ha hd' e1
    by_cases q : a = u ∧ b' = v
    · obtain ⟨q1, q2⟩ := q
      subst q1; subst q2
      rw [k1 ⟨rfl, hd', rfl⟩]
      refine ⟨fun y => ?_, fun y => ?_⟩
      · rw [upF_s.mp y]; rfl
      · cases hb : b with
        | false => rfl
        | true => exact absurd (upF_s.mpr hb) y
    · rw [k2 (fun y => q ⟨y.1, y.2.2⟩)]
      obtain ⟨f1, f2⟩ := hf a b' d' ha hb' hd' e1
      exact ⟨fun y => f1 ((upF_o q).mp y), fun y => f2 (fun x => y ((upF_o q).mpr x))⟩
theorem x_turn (hF : WF S) (hR : HR S w h) (hh : h + 9 < o) (h0 : FLW S op s e f0 c0 n) (hop : ∀ t, op t → onR S t) (hs : op s) (hse : ¬ s = e) (he8 : e < 144) (e0 : wI w o 0 = nI s) (e1 : wI w o 1 = nI e) (hf : FAr S w (o + 3) f0) (hc : CAr s e w (o + 2) c0) {came : Nat → Option Nat} {que : Nat → Nat} {m i : Nat} (hB : BQ (rsx S op s e f0 c0) (ndX op e) (2 * s + 1) came que m) (hA : AHr w (o + 4) (o + 5) o 7 came que m) (hi : i < m) (hq : que i = 2 * e) : tp (sh_148 o h w) (fun _ w' => ∃ f c, FLW S op s e f c (n + 1) ∧ FAr S w' (o + 3) f ∧ CAr s e w' (o + 2) c ∧ Kp (fun q => q = o + 2 ∨ q = o + 3) w w') := by
  have hs8 := (hop s hs).lt hF
  have hm8 : m ≤ 288 := by
    have := cntN_le (fun x => (came x).isSome) 288
    have := hB.1
    omega
  unfold sh_148
  rw [e1, l2, nI_m]
  refine tp_lt ?_
  refine tp_it (fun k s' w' => ∃ j f c, s' = (nI (que j), nI k) ∧ j + k ≤ i ∧ DEF S op s e n (que j) f c ∧ asW que j f f0 c c0 ∧ FAr S w' (o + 3) f ∧ CAr s e w' (o + 2) c ∧ ¬ que j = 2 * s ∧ Kp (fun q => q = o + 2 ∨ q = o + 3) w w') 288 (by omega) ⟨i, f0, c0, by rw [hq]; rfl, Nat.le_refl _, by rw [hq]; exact DEF.start h0, fun _ _ => ⟨fun _ _ _ => Iff.rfl, fun _ _ => Iff.rfl⟩, hf, hc, by omega, Kp.refl⟩ (fun k s' w' hI => ?_)
  obtain ⟨j, f, c, es, hjk, hD, hW, hf', hc', hns, hK⟩ := hI
  subst es
  have hq8 := (hB.2.1 j (by omega)).1
  have hnd := (hB.2.1 j (by omega)).2.2
  refine tp_if (show nI k < (288 : Int32) from nlt (b := 288) (by omega) (by decide)) (tp_if (n0le (by omega)) (tp_if (show nI (que j) < (288 : Int32) from nlt (b := 288) hq8 (by decide)) ?_))
  rw [hK.I (k := o) (by omega), e0, nI_m, nI_s, ix_nI (by omega), hK.I (k := o + 4) (by omega), hA.1 _ hq8]
  refine tp_ite (fun z => ?_) (fun z => ?_)
  · have hz : que j = 2 * s + 1 := (nI_eq (by omega) (by omega)).mp z
    rw [hz] at hD
    exact tp_out ⟨f, c, hD.fin, hf', hc', hK⟩
  · have hz : ¬ que j = 2 * s + 1 := fun y => z (by rw [y])
    have hj0 : 0 < j := by
      by_cases y : j = 0
      · subst y; exact absurd hB.2.2.2.2.1.2.1 hz
      · omega
    obtain ⟨j', hj', ec, hr⟩ := hB.2.2.2.2.2 j hj0 (by omega)
    have hq8' := (hB.2.1 j' (by omega)).1
    obtain ⟨f', c', hst, hD', hW', hns'⟩ := step_back (m := m) h0 (fun t ht => (hop t ht).lt hF) (by omega) hj' hB.2.2.1 hr hD hW hns hz hnd.2
    have next : ∀ w2 : Wd, FAr S w2 (o + 3) f' → CAr s e w2 (o + 2) c' → Kp (fun q => q = o + 2 ∨ q = o + 3) w w2 → tp (lt (nI (k + 1) : Int32) (fun v3_18 => some ((.inl (nI (que j'), v3_18) : (Int32 × Int32) ⊕ Unit), w2))) (lpQ (fun s' w' => k < 288 ∧ ∃ j f c, s' = (nI (que j), nI (k + 1)) ∧ j + (k + 1) ≤ i ∧ DEF S op s e n (que j) f c ∧ asW que j f f0 c c0 ∧ FAr S w' (o + 3) f ∧ CAr s e w' (o + 2) c ∧ ¬ que j = 2 * s ∧ Kp (fun q => q = o + 2 ∨ q = o + 3) w w') (fun _ w' => ∃ f c, FLW S op s e f c (n + 1) ∧ FAr S w' (o + 3) f ∧ CAr s e w' (o + 2) c ∧ Kp (fun q => q = o + 2 ∨ q = o + 3) w w')) := fun w2 k1 k2 k3 => tp_lt (tp_on ⟨by omega, j', f', c', rfl, by omega, hD', hW', k1, k2, hns', k3⟩)
    rw [ec, show eNone (some (que j')) = nI (que j') from rfl, nI_s k, nI_div (by omega) (by decide) (by decide), nI_rem (by omega) (by decide) (by decide)]
    refine tp_gd (ib_nI hq8 (by decide)) (tp_lt (tp_jn (tp_if (n0le (by omega)) ?_)))
    rw [nI_div (a := que j') (by omega) (by decide) (by decide)]
    have hR' : HR S w' h := hR.kp hK (fun q a b => by omega)
    rcases hst with ⟨u, v, a1, a2, a3, a4, a5⟩ | ⟨u, v, a1, a2, a3, a4, a5⟩ | ⟨t, a1, a2, a3, a4, a5, a6⟩ | ⟨t, a1, a2, a3, a4, a5, a6⟩
    · have hu : que j' / 2 = u := by omega
      have hv : que j / 2 = v := by omega
      have hmod : que j % 2 = 0 := by omega
      have hvo : onR S u := hop u (by have := (hB.2.1 j' (by omega)).2.2.1; rw [hu] at this; exact this)
      have hv8 : v < 144 := by omega
      rw [hu, hv, hmod]
      refine tp_ifn (fun y => a3 ((nI_eq (by omega) (by omega)).mp y).symm) (tp_jn (tp_if (n0le (by omega)) (tp_if rfl ?_)))
      have g := x_setFlow (o := o) hF hR' hh hvo hv8 true hf'
      refine tp_cl g (fun _ w2 g2 => next w2 ?_ ?_ (hK.trans (g2.2.mono (fun q hq => Or.inr hq))))
      · rw [a4]
        have := g2.1
        rw [show ((true : Bool) = true) = True from eq_self true] at this
        exact this
      · rw [a5]; unfold CAr; rw [g2.2.I (by omega)]; exact hc'
    · have hu : que j' / 2 = v := by omega
      have hv : que j / 2 = u := by omega
      have hmod : que j % 2 = 1 := by omega
      have huo : onR S u := hop u (by have := (hB.2.1 j (by omega)).2.2.1; rw [hv] at this; exact this)
      have hv8 : v < 144 := by omega
      rw [hu, hv, hmod]
      refine tp_ifn (fun y => a3 ((nI_eq (by omega) (by omega)).mp y)) (tp_jn (tp_if (n0le (by omega)) (tp_ifn (by decide) (tp_if (n0le (by omega)) ?_))))
      have g := x_setFlow (o := o) hF hR' hh huo hv8 false hf'
      refine tp_cl g (fun _ w2 g2 => next w2 ?_ ?_ (hK.trans (g2.2.mono (fun q hq => Or.inr hq))))
      · rw [a4]
        have := g2.1
        rw [show ((false : Bool) = true) = False from by simp] at this
        exact this
      · rw [a5]; unfold CAr; rw [g2.2.I (by omega)]; exact hc'
    · have hu : que j' / 2 = t := by omega
      have hv : que j / 2 = t := by omega
      have hmod : que j % 2 = 1 := by omega
      have ht8 : t < 144 := by omega
      rw [hu, hv, hmod, ix_nI (by omega)]
      refine tp_if rfl (tp_lt (tp_gd (ib_nI ht8 (by decide)) (tp_stI (next _ ?_ ?_ (hK.sI (by omega) _ _)))))
      · rw [a5]; unfold FAr; rw [wI_row (by omega)]; exact hf'
      · rw [a6]
        intro a ha
        rw [wI_up]
        unfold up
        obtain ⟨k1, k2⟩ := hc' a ha
        by_cases q : a = t
        · subst q
          rw [if_pos rfl]
          exact ⟨fun _ => rfl, fun _ _ => ⟨fun _ => rfl, fun y => absurd (upC_s.mpr trivial) y⟩⟩
        · rw [if_neg q]
          exact ⟨k1, fun b1 b2 => ⟨fun y => (k2 b1 b2).1 ((upC_o q).mp y), fun y => (k2 b1 b2).2 (fun x => y ((upC_o q).mpr x))⟩⟩
    · have hu : que j' / 2 = t := by omega
      have hv : que j / 2 = t := by omega
      have hmod : que j % 2 = 0 := by omega
      have ht8 : t < 144 := by omega
      rw [hu, hv, hmod, ix_nI (by omega)]
      refine tp_if rfl (tp_lt (tp_gd (ib_nI ht8 (by decide)) (tp_stI (next _ ?_ ?_ (hK.sI (by omega) _ _)))))
      · rw [a5]; unfold FAr; rw [wI_row (by omega)]; exact hf'
      · rw [a6]
        intro a ha
        rw [wI_up]
        unfold up
        obtain ⟨k1, k2⟩ := hc' a ha
        by_cases q : a = t
        · subst q
          rw [if_pos rfl]
          exact ⟨fun y => (by rcases y with y | y; exact absurd y a3; exact absurd y a4), fun _ _ => ⟨fun y => absurd (upC_s.mp y) id, fun _ => rfl⟩⟩
        · rw [if_neg q]
          exact ⟨k1, fun b1 b2 => ⟨fun y => (k2 b1 b2).1 ((upC_o q).mp y), fun y => (k2 b1 b2).2 (fun x => y ((upC_o q).mpr x))⟩⟩
/-- a flow that fills the rug, as the class holds it -/
def FIL (S : Nat → Int32) (op : Nat → Prop) (s e : Nat) (w : Wd) (o : Nat) (n : Nat) (f : Nat → Nat → Prop) (c : Nat → Prop) : Prop := FLW S op s e f c n ∧ FAr S w (o + 3) f ∧ CAr s e w (o + 2) c ∧ ((∃ R, clsd S op s e f c R ∧ R (2 * s + 1) ∧ ¬ R (2 * e)) ∨ n = 4)
theorem x_fill (hF : WF S) (hR : HR S w h) (hh : h + 9 < o) (hop : ∀ t, op t → onR S t) (hs : op s) (hoe : op e) (hse : ¬ s = e) (e0 : wI w o 0 = nI s) (e1 : wI w o 1 = nI e) (hsh : SHr S w (o + 1) op) : tp (sh_143 o h w) (fun v w' => ∃ n f c, v = nI n ∧ FIL S op s e w' o n f c ∧ n ≤ 4 ∧ Kp (fun q => q = o ∨ 2 + o ≤ q ∧ q ≤ o + 5) w w' ∧ Fo o 7 w w') := by
  have hs8 := (hop s hs).lt hF
  have he8 := (hop e hoe).lt hF
  unfold sh_143
  refine tp_it (fun j s' w' => s' = nI j ∧ j ≤ 144 ∧ (∀ t, t < j → wI w' (o + 2) t = if t = s ∨ t = e then 1 else 0) ∧ Kp (fun q => q = o ∨ 2 + o ≤ q ∧ q ≤ o + 5) w w' ∧ Fo o 7 w w') 144 (by omega) ⟨rfl, Nat.zero_le _, fun t ht => by omega, Kp.refl, fun _ _ => rfl⟩ (fun j s' w' hI => ?_)
  obtain ⟨es, hj, g1, gK, gF⟩ := hI
  subst es
  refine tp_ite (fun hlt => ?_) (fun hlt => ?_)
  · have hj8 : j < 144 := (nlt_i (by omega) (by decide)).mp (show nI j < nI 144 from hlt)
    rw [ix_nI (by omega), nI_s, gF 0 (by decide), gF 1 (by decide), e0, e1]
    refine tp_lt (tp_gd (ib_nI hj8 (by decide)) (tp_stI (tp_lt (tp_on ⟨hj8, rfl, by omega, fun t ht => ?_, gK.sI (by omega) _ _, fun k hk => by rw [wI_row (by omega)]; exact gF k hk⟩))))
    rw [wI_up]
    unfold up
    by_cases q : t = j
    · subst q
      rw [if_pos rfl]
      by_cases q1 : t = s
      · rw [if_pos (congrArg nI q1), if_pos (Or.inl q1)]; rfl
      · rw [if_neg (fun z => q1 ((nI_eq (by omega) (by omega)).mp z))]
        by_cases q2 : t = e
        · rw [if_pos (congrArg nI q2), if_pos (Or.inr q2)]; rfl
        · rw [if_neg (fun z => q2 ((nI_eq (by omega) (by omega)).mp z)), if_neg (by omega)]; rfl
    · rw [if_neg q]; exact g1 t (by omega)
  · have hj8 : j = 144 := by
      by_cases q : j < 144
      · exact absurd (nlt q (by decide) : nI j < nI 144) hlt
      · omega
    subst hj8
    refine tp_it (fun j s' w' => s' = nI j ∧ j ≤ 576 ∧ (∀ t, t < j → wI w' (o + 3) t = 0) ∧ (∀ t, t < 144 → wI w' (o + 2) t = if t = s ∨ t = e then 1 else 0) ∧ Kp (fun q => q = o ∨ 2 + o ≤ q ∧ q ≤ o + 5) w w' ∧ Fo o 7 w w') 576 (by omega) ⟨rfl, Nat.zero_le _, fun t ht => by omega, g1, gK, gF⟩ (fun j s' w' hI => ?_)
    obtain ⟨es, hj, g3, g1, gK, gF⟩ := hI
    subst es
    refine tp_ite (fun hlt => ?_) (fun hlt => ?_)
    · have hj8 : j < 576 := (nlt_i (by omega) (by decide)).mp (show nI j < nI 576 from hlt)
      rw [ix_nI (by omega), nI_s]
      refine tp_gd (ib_nI hj8 (by decide)) (tp_stI (tp_lt (tp_on ⟨hj8, rfl, by omega, fun t ht => ?_, by rw [wI_row (by omega)]; exact g1, gK.sI (by omega) _ _, fun k hk => by rw [wI_row (by omega)]; exact gF k hk⟩)))
      rw [wI_up]
      unfold up
      by_cases q : t = j
      · rw [if_pos q]
      · rw [if_neg q]; exact g3 t (by omega)
    · have hj8 : j = 576 := by
        by_cases q : j < 576
        · exact absurd (nlt q (by decide) : nI j < nI 576) hlt
        · omega
      subst hj8
      have z0 : ∀ t, zs 144 (fun u => iv ((fun _ _ => False : Nat → Nat → Prop) u t)) = 0 := fun t => zs_0 (fun _ _ => iv_f id)
      have z1 : ∀ t, zs 144 (fun v => iv ((fun _ _ => False : Nat → Nat → Prop) t v)) = 0 := fun t => zs_0 (fun _ _ => iv_f id)
      refine tp_it (fun k s' w3 => ∃ f c, s' = (nI k, nI k) ∧ k ≤ 4 ∧ FLW S op s e f c (k : Nat) ∧ FAr S w3 (o + 3) f ∧ CAr s e w3 (o + 2) c ∧ Kp (fun q => q = o ∨ 2 + o ≤ q ∧ q ≤ o + 5) w w3 ∧ Fo o 7 w w3) 4 (by omega) ⟨fun _ _ => False, fun _ => False, rfl, Nat.zero_le _, ⟨fun _ _ z => absurd z id, fun t _ _ _ => ⟨(z0 t).trans (iv_f (fun z : False => z)).symm, (z1 t).trans (iv_f (fun z : False => z)).symm⟩, z1 s, z0 e⟩, fun u v d hu hv hd e1 => ⟨fun z => absurd z id, fun _ => g3 _ (by have := hu.lt hF; omega)⟩, fun t ht => ⟨fun z => by rw [g1 t ht, if_pos z], fun a b => ⟨fun z => absurd z id, fun _ => by rw [g1 t ht, if_neg (by omega)]⟩⟩, gK, gF⟩ (fun k s' w3 hI => ?_)
      obtain ⟨f, c, es, hk, hL, hf, hc, hK, hFo⟩ := hI
      subst es
      refine tp_ite (fun hlt => ?_) (fun hlt => ?_)
      · have hk4 : k < 4 := (nlt_i (by omega) (by decide)).mp (show nI k < nI 4 from hlt)
        rw [hFo 0 (by decide), hFo 1 (by decide), e0, e1, l2, l1, nI_m, nI_m, nI_p, nI_p]
        have hR' : HR S w3 h := hR.kp hK (fun q a b => by omega)
        have e0' : wI w3 o 0 = nI s := by rw [hFo 0 (by decide)]; exact e0
        have e1' : wI w3 o 1 = nI e := by rw [hFo 1 (by decide)]; exact e1
        have hsh' : SHr S w3 (o + 1) op := by unfold SHr; rw [hK.I (by omega)]; exact hsh
        refine tp_cl (x_canGo (st := 2 * s + 1) (gl := 2 * e) hF hR' hh hL hop hs hse e0' hf hc hsh' (by omega) (by omega) ⟨by rw [show (2 * s + 1) / 2 = s by omega]; exact hs, by omega⟩) (fun v w4 h4 => ?_)
        obtain ⟨⟨came, que, m, hB, hA, hv⟩, hK4, hF4⟩ := h4
        have hf4 : FAr S w4 (o + 3) f := by unfold FAr; rw [hK4.I (k := o + 3) (by unfold lkP; omega)]; exact hf
        have hc4 : CAr s e w4 (o + 2) c := by unfold CAr; rw [hK4.I (k := o + 2) (by unfold lkP; omega)]; exact hc
        have hK5 : Kp (fun q => q = o ∨ 2 + o ≤ q ∧ q ≤ o + 5) w w4 := hK.trans (hK4.mono (fun q hq => by unfold lkP at hq; omega))
        have hF5 : Fo o 7 w w4 := fun j hj => by rw [hF4 j hj]; exact hFo j hj
        rcases hv with ⟨hv, i, hi, hqi⟩ | ⟨hv, hno, hcl⟩
        · subst hv
          refine tp_if rfl (tp_cl (x_turn hF (hR'.kp hK4 (fun q a b z => by unfold lkP at z; omega)) hh hL hop hs hse he8 (by rw [hF4 0 (by decide)]; exact e0') (by rw [hF4 1 (by decide)]; exact e1') hf4 hc4 hB hA hi hqi) (fun _ w5 h5 => ?_))
          obtain ⟨f5, c5, k1, k2, k3, k4⟩ := h5
          refine tp_lt (tp_lt (tp_on ⟨hk4, f5, c5, rfl, by omega, ?_, k2, k3, hK5.trans (k4.mono (fun q hq => by omega)), fun j hj => by rw [k4.I (k := o) (by omega)]; exact hF5 j hj⟩))
          rw [Int.natCast_add]
          exact k1
        · subst hv
          refine tp_ifn (by decide) ⟨_, _, rfl, ⟨k, f, c, rfl, ⟨hL, hf4, hc4, Or.inl ⟨fun x => (came x).isSome = true ∧ x < 288, ?_, ?_, ?_⟩⟩, hk, hK5, hF5⟩⟩
          · exact clsd_of (rsx S op s e f c) (fun x y z => Or.inl z) _ (fun x y hx hy z hr => ⟨hcl x y hx hy z.1 hr, hy⟩)
          · exact ⟨by rw [hB.2.2.2.2.1.2.2]; rfl, by omega⟩
          · intro z
            obtain ⟨j, hj, ej⟩ := hB.2.2.2.1 (2 * e) z.2 z.1
            exact hno j hj ej
      · have hk4 : k = 4 := by
          by_cases q : k < 4
          · exact absurd (nlt q (by decide) : nI k < nI 4) hlt
          · omega
        exact ⟨_, _, rfl, ⟨k, f, c, rfl, ⟨hL, hf, hc, Or.inr hk4⟩, hk, hK, hFo⟩⟩
end TU
