/-! where to lay rugs: the reference's search -/
def ndM (op : Nat → Prop) (s e : Nat) (x : Nat) : Prop := op (x / 2) ∧ ¬ x = 2 * e + 1 ∧ ¬ x = 2 * s
def mkP (q : Nat) : Prop := q = 166 ∨ q = 182 ∨ q = 183
def CMr (s e : Nat) (w : Wd) (c : Nat → Prop) : Prop := ∀ t, t < 144 → ¬ t = s → ¬ t = e → (c t → wI w 181 t = 1) ∧ (¬ c t → wI w 181 t = 0)
/-- laid or not -/
def LDr (S : Nat → Int32) (w : Wd) (op : Nat → Prop) : Prop := ∀ t, frT S t → (op t → wI w 185 t = 0) ∧ (¬ op t → wI w 185 t = 1)
section RB
variable {S : Nat → Int32} {op : Nat → Prop} {s e : Nat} {f f0 : Nat → Nat → Prop} {c c0 : Nat → Prop} {w : Wd} {n : Int} {r : Nat → Nat → Prop} {st : Nat}
def VSm (op : Nat → Prop) (s e : Nat) (r : Nat → Nat → Prop) (st : Nat) (w : Wd) (came : Nat → Option Nat) (que : Nat → Nat) (m : Nat) (w' : Wd) (came' : Nat → Option Nat) (que' : Nat → Nat) (m' : Nat) : Prop := BQ r (ndM op s e) st came' que' m' ∧ AHr w' 182 183 166 43 came' que' m' ∧ BG came came' que que' m m' ∧ Kp mkP w w' ∧ Fm (fun j => j = 43) w w'
theorem VSm.refl {came : Nat → Option Nat} {que : Nat → Nat} {m : Nat} (hB : BQ r (ndM op s e) st came que m) (hA : AHr w 182 183 166 43 came que m) : VSm op s e r st w came que m w came que m := ⟨hB, hA, BG.refl, Kp.refl, fun _ _ => rfl⟩
theorem VSm.trans {w1 w2 : Wd} {c0 c1 c2 : Nat → Option Nat} {q0 q1 q2 : Nat → Nat} {m0 m1 m2 : Nat} (a : VSm op s e r st w c0 q0 m0 w1 c1 q1 m1) (b : VSm op s e r st w1 c1 q1 m1 w2 c2 q2 m2) : VSm op s e r st w c0 q0 m0 w2 c2 q2 m2 := ⟨b.1, b.2.1, a.2.2.1.trans b.2.2.1, a.2.2.2.1.trans b.2.2.2.1, fun j hj => by rw [b.2.2.2.2 j hj, a.2.2.2.2 j hj]⟩
theorem came_lt {nd : Nat → Prop} {came : Nat → Option Nat} {que : Nat → Nat} {m y x : Nat} (hB : BQ r nd st came que m) (hy : y < 288) (hc : came y = some x) : x < 288 := by
  obtain ⟨j, hj, ej⟩ := hB.2.2.2.1 y hy (by rw [hc]; rfl)
  by_cases q : j = 0
  · subst q
    have h7 := hB.2.2.2.2.1.2.2
    rw [← hB.2.2.2.2.1.2.1, ej, hc] at h7
    have := Option.some.inj h7
    omega
  · obtain ⟨k, hk, e1, -⟩ := hB.2.2.2.2.2 j (by omega) hj
    rw [ej, hc] at e1
    have := Option.some.inj e1
    have := (hB.2.1 k (by omega)).1
    omega
theorem y_comes {came : Nat → Option Nat} {que : Nat → Nat} {m i y : Nat} (hB : BQ r (ndM op s e) st came que m) (hA : AHr w 182 183 166 43 came que m) (hi : i < m) (hy : y < 288) (hr : r (que i) y) (hn : ndM op s e y) : tp (sh_259 166 (nI y) (nI (que i)) w) (fun _ w' => ∃ came' que' m', VSm op s e r st w came que m w' came' que' m' ∧ (came' y).isSome = true) := by
  obtain ⟨a1, a2, a3⟩ := hA
  unfold sh_259
  rw [ix_nI (by omega), show wI w (166 + 16) y = eNone (came y) from a1 y hy]
  refine tp_gd (ib_nI hy (by decide)) ?_
  cases hc : came y with
  | some x =>
    have hx := came_lt hB hy hc
    refine tp_ifn (fun z => ?_) (tp_some ⟨came, que, m, VSm.refl hB ⟨a1, a2, a3⟩, by rw [hc]; rfl⟩)
    have := (eNone_m1 (b := some x) (fun x' hx' => by cases hx'; omega)).mp z
    cases this
  | none =>
    have hm := hB.lt hy hc
    refine tp_if rfl (tp_gd (ib_nI hy (by decide)) (tp_stI ?_))
    rw [wI_row (show ¬ 166 = 166 + 16 by decide), a3, ix_nI (by omega)]
    refine tp_gd (ib_nI hm (by decide)) (tp_stI ?_)
    rw [wI_row (show ¬ 166 = 166 + 17 by decide), wI_row (show ¬ 166 = 166 + 16 by decide), a3, nI_s]
    refine tp_stI (tp_some ⟨upO came y (some (que i)), upO que m y, m + 1, ⟨hB.add hi hy hc hr hn, ⟨fun x hx => ?_, fun j hj => ?_, wI_same⟩, ⟨by omega, fun j hj => upO_o que y (by omega), fun x hx => ?_⟩, ?_, fun j hj => ?_⟩, by rw [upO_s]; rfl⟩)
    · rw [wI_row (by decide), wI_row (by decide), show 166 + 16 = 182 from rfl, wI_up]
      unfold up upO
      by_cases q : x = y
      · rw [if_pos q, if_pos q]; rfl
      · rw [if_neg q, if_neg q]; exact a1 x hx
    · rw [wI_row (by decide), show 166 + 17 = 183 from rfl, wI_up, wI_row (by decide)]
      unfold up upO
      by_cases q : j = m
      · rw [if_pos q, if_pos q]
      · rw [if_neg q, if_neg q]; exact a2 j (by omega)
    · by_cases q : x = y
      · subst q; rw [upO_s]; rfl
      · rw [upO_o came _ q]; exact hx
    · exact ((kp0 (P := mkP) (Or.inr (Or.inl rfl))).trans (kp0 (Or.inr (Or.inr rfl)))).trans (kp0 (Or.inl rfl))
    · rw [wI_other hj, wI_row (by decide), wI_row (by decide)]
theorem y_isOpen (hS : wI w 168 = S) (hop : ∀ t, op t → frT S t) (hld : LDr S w op) (hF : WF S) {b : Option Nat} (hb : ∀ t, b = some t → onR S t) : ∃ v, sh_261 166 (eNone b) w = some (v, w) ∧ (v = true ↔ ∃ t, b = some t ∧ op t) := by
  unfold sh_261
  cases b with
  | none => exact ⟨false, if_neg (by decide), ⟨fun z => (by cases z), fun ⟨t, z, _⟩ => (by cases z)⟩⟩
  | some t =>
    have ht := hb t rfl
    have ht8 := ht.lt hF
    rw [show eNone (some t) = nI t from rfl, if_pos (n0le (by omega)), l25, nI_p, gd_nI (by omega) (by decide), gd_nI ht8 (by decide), ix_nI (by omega), ix_nI (by omega), show wI w (166 + 2) = S from hS]
    by_cases q : S (25 + t) = 0
    · obtain ⟨k1, k2⟩ := hld t ⟨ht, q⟩
      rw [if_pos q]
      rcases Classical.em (op t) with z | z
      · exact ⟨true, by rw [show wI w (166 + 19) t = 0 from k1 z, if_pos rfl], ⟨fun _ => ⟨t, rfl, z⟩, fun _ => rfl⟩⟩
      · exact ⟨false, by rw [show wI w (166 + 19) t = 1 from k2 z, if_neg (by decide)], ⟨fun y => (by cases y), fun ⟨t', y, y2⟩ => (by cases y; exact absurd y2 z)⟩⟩
    · exact ⟨false, if_neg q, ⟨fun y => (by cases y), fun ⟨t', y, y2⟩ => (by cases y; exact absurd (hop t y2).2 q)⟩⟩
theorem db_beN (hF : WF S) {u v d : Nat} (hu : onR S u) (hd : d < 4) (hb : beN S u d = some v) : dbS (nI u) (nI v) = nI d := by
  obtain ⟨-, hv8⟩ := beN_on hF hu hb
  have hu8 := hu.lt hF
  have key : (d = 0 ∧ v + 12 = u) ∨ (d = 1 ∧ v = u + 1) ∨ (d = 2 ∧ v = u + 12) ∨ (d = 3 ∧ v + 1 = u) := by
    have hd' : d = 0 ∨ d = 1 ∨ d = 2 ∨ d = 3 := by omega
    unfold beN beW at hb
    rcases hd' with q | q | q | q <;> subst q
    · rw [if_pos rfl] at hb
      split at hb
      · cases hb; omega
      · cases hb
    · rw [if_neg (by decide), if_pos rfl] at hb
      split at hb
      · cases hb; omega
      · cases hb
    · rw [if_neg (by decide), if_neg (by decide), if_pos rfl] at hb
      split at hb
      · cases hb; omega
      · cases hb
    · rw [if_neg (by decide), if_neg (by decide), if_neg (by decide)] at hb
      split at hb
      · cases hb; omega
      · cases hb
  have e12 : nI v = nI u - 12 ↔ v + 12 = u := by
    constructor
    · intro h
      have h2 : nI v + 12 = nI u := by rw [h, Int32.sub_add_cancel]
      rw [l12, nI_p] at h2
      exact (nI_eq (by omega) (by omega)).mp h2
    · intro h
      rw [← h, ← nI_p, show nI 12 = (12 : Int32) from rfl, Int32.add_sub_cancel]
  unfold dbS
  rw [l1, l12, nI_p, nI_p]
  rcases key with ⟨q, h⟩ | ⟨q, h⟩ | ⟨q, h⟩ | ⟨q, h⟩ <;> subst q
  · rw [if_pos (by rw [show nI 12 = (12 : Int32) from rfl]; exact e12.mpr h)]; rfl
  · rw [if_neg (by rw [show nI 12 = (12 : Int32) from rfl]; exact fun z => by have := e12.mp z; omega), if_pos (by rw [h])]
  · rw [if_neg (by rw [show nI 12 = (12 : Int32) from rfl]; exact fun z => by have := e12.mp z; omega), if_neg (fun z => by have := (nI_eq (by omega) (by omega)).mp z; omega), if_pos (by rw [h])]; rfl
  · rw [if_neg (by rw [show nI 12 = (12 : Int32) from rfl]; exact fun z => by have := e12.mp z; omega), if_neg (fun z => by have := (nI_eq (by omega) (by omega)).mp z; omega), if_neg (fun z => by have := (nI_eq (by omega) (by omega)).mp z; omega)]; rfl
theorem FAr.up1 (hF : WF S) {u v d k : Nat} {x : Int32} {p : Prop} (hf : FAr S w k f) (hu : onR S u) (hd : d < 4) (hb : beN S u d = some v) (hx : (p → x = 1) ∧ (¬ p → x = 0)) : FAr S (sI w k (4 * u + d) x) k (upF f u v p) := by
  intro a b' d' ha hb' hd' e1
  rw [wI_up]
  unfold up
  by_cases q : a = u ∧ d' = d
  · obtain ⟨q1, q2⟩ := q
    subst q1; subst q2
    rw [hb] at e1
    have := Option.some.inj e1
    subst this
    rw [if_pos rfl]
    exact ⟨fun z => hx.1 (upF_s.mp z), fun z => hx.2 (fun y => z (upF_s.mpr y))⟩
  · rw [if_neg (by omega)]
    obtain ⟨f1, f2⟩ := hf a b' d' ha hb' hd' e1
    have hne : ¬ (a = u ∧ b' = v) := fun z => q ⟨z.1, by
      rw [z.1, z.2] at e1
      exact beN_inj hd' hd e1 hb⟩
    exact ⟨fun z => f1 ((upF_o hne).mp z), fun z => f2 (fun y => z ((upF_o hne).mpr y))⟩
theorem CMr.up1 {t : Nat} {x : Int32} {p : Prop} (hc : CMr s e w c) (hx : (p → x = 1) ∧ (¬ p → x = 0)) : CMr s e (sI w 181 t x) (upC c t p) := by
  intro a ha h1 h2
  rw [wI_up]
  unfold up
  by_cases q : a = t
  · subst q
    rw [if_pos rfl]
    exact ⟨fun z => hx.1 (upC_s.mp z), fun z => hx.2 (fun y => z (upC_s.mpr y))⟩
  · rw [if_neg q]
    obtain ⟨k1, k2⟩ := hc a ha h1 h2
    exact ⟨fun z => k1 ((upC_o q).mp z), fun z => k2 (fun y => z ((upC_o q).mpr y))⟩
theorem y_turned (hF : WF S) (h0 : FLW S op s e f0 c0 n) (hop : ∀ t, op t → onR S t) (hs : op s) (hse : ¬ s = e) (he8 : e < 144) (hf : FAr S w 180 f0) (hc : CMr s e w c0) {came : Nat → Option Nat} {que : Nat → Nat} {m i : Nat} (hB : BQ (rsd S op s e f0 c0) (ndM op s e) (2 * s + 1) came que m) (hA : AHr w 182 183 166 43 came que m) (hi : i < m) (hq : que i = 2 * e) : tp (sh_260 166 (nI s) (nI e) w) (fun v w' => v = true ∧ ∃ f c, FLW S op s e f c (n + 1) ∧ FAr S w' 180 f ∧ CMr s e w' c ∧ Kp (fun q => q = 180 ∨ q = 181) w w') := by
  have hs8 := (hop s hs).lt hF
  have hm8 : m ≤ 288 := by
    have := cntN_le (fun x => (came x).isSome) 288
    have := hB.1
    omega
  unfold sh_260
  rw [l2, nI_m, nI_m, nI_s]
  refine tp_lt ?_
  refine tp_it (fun k s' w' => ∃ j f c, s' = nI (que j) ∧ j + k ≤ i ∧ DEF S op s e n (que j) f c ∧ asW que j f f0 c c0 ∧ FAr S w' 180 f ∧ CMr s e w' c ∧ ¬ que j = 2 * s ∧ Kp (fun q => q = 180 ∨ q = 181) w w') 288 (by omega) ⟨i, f0, c0, by rw [hq], Nat.le_refl _, by rw [hq]; exact DEF.start h0, fun _ _ => ⟨fun _ _ _ => Iff.rfl, fun _ _ => Iff.rfl⟩, hf, hc, by omega, Kp.refl⟩ (fun k s' w' hI => ?_)
  obtain ⟨j, f, c, es, hjk, hD, hW, hf', hc', hns, hK⟩ := hI
  subst es
  have hq8 := (hB.2.1 j (by omega)).1
  have hnd := (hB.2.1 j (by omega)).2.2
  refine tp_ite (fun z => ?_) (fun z => ?_)
  · have hz : que j = 2 * s + 1 := (nI_eq (by omega) (by omega)).mp z
    rw [hz] at hD
    exact tp_out ⟨rfl, f, c, hD.fin, hf', hc', hK⟩
  · have hz : ¬ que j = 2 * s + 1 := fun y => z (by rw [y])
    have hj0 : 0 < j := by
      by_cases y : j = 0
      · subst y; exact absurd hB.2.2.2.2.1.2.1 hz
      · omega
    obtain ⟨j', hj', ec, hr⟩ := hB.2.2.2.2.2 j hj0 (by omega)
    have hq8' := (hB.2.1 j' (by omega)).1
    obtain ⟨f', c', hst, hD', hW', hns'⟩ := step_back (m := m) h0 (fun t ht => (hop t ht).lt hF) (by omega) hj' hB.2.2.1 (Or.inl hr) hD hW hns hz hnd.2.1
    have next : ∀ w2 : Wd, FAr S w2 180 f' → CMr s e w2 c' → Kp (fun q => q = 180 ∨ q = 181) w w2 → tp (some ((.inl (nI (que j')) : Int32 ⊕ Bool), w2)) (lpQ (fun s' w' => k < 288 ∧ ∃ j f c, s' = nI (que j) ∧ j + (k + 1) ≤ i ∧ DEF S op s e n (que j) f c ∧ asW que j f f0 c c0 ∧ FAr S w' 180 f ∧ CMr s e w' c ∧ ¬ que j = 2 * s ∧ Kp (fun q => q = 180 ∨ q = 181) w w') (fun v w' => v = true ∧ ∃ f c, FLW S op s e f c (n + 1) ∧ FAr S w' 180 f ∧ CMr s e w' c ∧ Kp (fun q => q = 180 ∨ q = 181) w w')) := fun w2 k1 k2 k3 => tp_on ⟨by omega, j', f', c', rfl, by omega, hD', hW', k1, k2, hns', k3⟩
    rw [ix_nI (by omega), hK.I (k := 166 + 16) (by omega), show wI w (166 + 16) (que j) = eNone (came (que j)) from hA.1 _ hq8, ec, show eNone (some (que j')) = nI (que j') from rfl, nI_div (a := que j) (by omega) (by decide) (by decide), nI_rem (by omega) (by decide) (by decide)]
    refine tp_gd (ib_nI hq8 (by decide)) (tp_lt ?_)
    rw [nI_div (a := que j') (by omega) (by decide) (by decide)]
    refine tp_lt (tp_lt ?_)
    rcases hst with ⟨u, v, a1, a2, a3, a4, a5⟩ | ⟨u, v, a1, a2, a3, a4, a5⟩ | ⟨t, a1, a2, a3, a4, a5, a6⟩ | ⟨t, a1, a2, a3, a4, a5, a6⟩
    · have hu : que j' / 2 = u := by omega
      have hv : que j / 2 = v := by omega
      have hmod : que j % 2 = 0 := by omega
      have huo : onR S u := hop u (by have := (hB.2.1 j' (by omega)).2.2.1; rw [hu] at this; exact this)
      have hu8 := huo.lt hF
      have hadj : Adj S u v := (hD'.1 u v (by rw [a4]; exact upF_s.mpr trivial)).1
      obtain ⟨d, hd, hb⟩ := hadj
      rw [hu, hv, hmod]
      refine tp_ifn (fun y => a3 ((nI_eq (by omega) (by omega)).mp y).symm) (tp_if rfl (tp_ce (y_db _ _ _) ?_))
      rw [db_beN hF huo hd hb, l4, nI_m, nI_p, ix_nI (by omega)]
      refine tp_gd (ib_nI (by omega) (by decide)) (tp_stI (next _ ?_ ?_ (hK.sI (by omega) _ _)))
      · rw [a4]; exact hf'.up1 (k := 180) hF huo hd hb ⟨fun _ => rfl, fun y => absurd trivial y⟩
      · rw [a5]; unfold CMr; rw [wI_row (by decide)]; exact hc'
    · have hu : que j' / 2 = v := by omega
      have hv : que j / 2 = u := by omega
      have hmod : que j % 2 = 1 := by omega
      have huo : onR S u := hop u (by have := (hB.2.1 j (by omega)).2.2.1; rw [hv] at this; exact this)
      have hu8 := huo.lt hF
      have hadj : Adj S u v := by
        rcases hr with ⟨u', v', b1, b2, -⟩ | ⟨u', v', b1, b2, g1, g2, g3⟩ | ⟨t', b1, b2, -⟩ | ⟨t', b1, b2, -⟩
        · omega
        · have h1 : u' = u := by omega
          have h2 : v' = v := by omega
          rw [h1, h2] at g3
          exact (h0.1 u v g3).1
        · omega
        · omega
      obtain ⟨d, hd, hb⟩ := hadj
      rw [hu, hv, hmod]
      refine tp_ifn (fun y => a3 ((nI_eq (by omega) (by omega)).mp y)) (tp_ifn (by decide) (tp_ce (y_db _ _ _) ?_))
      rw [db_beN hF huo hd hb, l4, nI_m, nI_p, ix_nI (by omega)]
      refine tp_gd (ib_nI (by omega) (by decide)) (tp_stI (next _ ?_ ?_ (hK.sI (by omega) _ _)))
      · rw [a4]; exact hf'.up1 (k := 180) hF huo hd hb ⟨fun y => absurd y id, fun _ => rfl⟩
      · rw [a5]; unfold CMr; rw [wI_row (by decide)]; exact hc'
    · have hu : que j' / 2 = t := by omega
      have hv : que j / 2 = t := by omega
      have hmod : que j % 2 = 1 := by omega
      rw [hu, hv, hmod, ix_nI (by omega)]
      refine tp_if rfl (tp_gd (ib_nI (by omega) (by decide)) (tp_stI (next _ ?_ ?_ (hK.sI (by omega) _ _))))
      · rw [a5]; unfold FAr; rw [wI_row (by decide)]; exact hf'
      · rw [a6]; exact hc'.up1 ⟨fun _ => rfl, fun y => absurd trivial y⟩
    · have hu : que j' / 2 = t := by omega
      have hv : que j / 2 = t := by omega
      have hmod : que j % 2 = 0 := by omega
      rw [hu, hv, hmod, ix_nI (by omega)]
      refine tp_if rfl (tp_gd (ib_nI (by omega) (by decide)) (tp_stI (next _ ?_ ?_ (hK.sI (by omega) _ _))))
      · rw [a5]; unfold FAr; rw [wI_row (by decide)]; exact hf'
      · rw [a6]; exact hc'.up1 ⟨fun y => absurd y id, fun _ => rfl⟩
end RB
