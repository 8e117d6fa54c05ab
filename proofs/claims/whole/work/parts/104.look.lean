/-! where to lay rugs: the class's search -/
def FAr (S : Nat → Int32) (w : Wd) (r : Nat) (f : Nat → Nat → Prop) : Prop := ∀ u v d, onR S u → v < 144 → d < 4 → beN S u d = some v → (f u v → wI w r (4 * u + d) = 1) ∧ (¬ f u v → wI w r (4 * u + d) = 0)
def CAr (s e : Nat) (w : Wd) (r : Nat) (c : Nat → Prop) : Prop := ∀ t, t < 144 → ((t = s ∨ t = e) → wI w r t = 1) ∧ (¬ t = s → ¬ t = e → (c t → wI w r t = 1) ∧ (¬ c t → wI w r t = 0))
def SHr (S : Nat → Int32) (w : Wd) (r : Nat) (op : Nat → Prop) : Prop := ∀ t, onR S t → (op t → wI w r t = 0) ∧ (¬ op t → wI w r t = 1)
def AHr (w : Wd) (a b o k : Nat) (came : Nat → Option Nat) (que : Nat → Nat) (m : Nat) : Prop := (∀ x, x < 288 → wI w a x = eNone (came x)) ∧ (∀ j, j < m → wI w b j = nI (que j)) ∧ wI w o k = nI m
/-- a place that may be come to -/
def ndX (op : Nat → Prop) (e : Nat) (x : Nat) : Prop := op (x / 2) ∧ ¬ x = 2 * e + 1
def lkP (o q : Nat) : Prop := q = o ∨ q = o + 4 ∨ q = o + 5
def Fo (o k : Nat) (w w' : Wd) : Prop := ∀ j, ¬ j = k → wI w' o j = wI w o j
theorem eNone_m1 {b : Option Nat} (hb : ∀ x, b = some x → x < 2147483648) : eNone b = -1 ↔ b = none := by
  cases b with
  | none => exact ⟨fun _ => rfl, fun _ => rfl⟩
  | some x =>
    constructor
    · intro h
      have hx := hb x rfl
      rw [show eNone (some x) = nI x from rfl, i_eq, i_nI hx] at h
      have : (x : Int) = -1 := h
      omega
    · intro h; cases h
/-- the start alone come to -/
def onlyC (st : Nat) : Nat → Option Nat := fun x => if x = st then some st else none
theorem onlyC_s (st : Nat) : onlyC st st = some st := if_pos rfl
theorem onlyC_o {st x : Nat} (h : ¬ x = st) : onlyC st x = none := if_neg h
theorem onlyC_n {st : Nat} (hst : st < 288) : cntN (fun x => (onlyC st x).isSome) 288 = 1 := by
  have e := cntN_up (X := fun _ => false) (n := 288) hst rfl
  have z : cntN (fun _ => false) 288 = 0 := by
    have : ∀ n, cntN (fun _ => false) n = 0 := fun n => by
      induction n with
      | zero => rfl
      | succ n ih => unfold cntN; rw [ih]; rfl
    exact this 288
  rw [z] at e
  refine Eq.trans ?_ e
  refine cntN_c (fun x _ => ?_)
  unfold upB onlyC
  by_cases q : x = st
  · rw [if_pos q, if_pos q]; rfl
  · rw [if_neg q, if_neg q]; rfl
section LK
variable {S : Nat → Int32} {op : Nat → Prop} {s e : Nat} {f : Nat → Nat → Prop} {c : Nat → Prop} {w : Wd} {o h st : Nat} {r : Nat → Nat → Prop}
/-- what one visit leaves -/
def VSo (op : Nat → Prop) (e : Nat) (r : Nat → Nat → Prop) (st o : Nat) (w : Wd) (came : Nat → Option Nat) (que : Nat → Nat) (m : Nat) (w' : Wd) (came' : Nat → Option Nat) (que' : Nat → Nat) (m' : Nat) : Prop := BQ r (ndX op e) st came' que' m' ∧ AHr w' (o + 4) (o + 5) o 7 came' que' m' ∧ BG came came' que que' m m' ∧ Kp (lkP o) w w' ∧ Fo o 7 w w'
theorem VSo.refl {came : Nat → Option Nat} {que : Nat → Nat} {m : Nat} (hB : BQ r (ndX op e) st came que m) (hA : AHr w (o + 4) (o + 5) o 7 came que m) : VSo op e r st o w came que m w came que m := ⟨hB, hA, BG.refl, Kp.refl, fun _ _ => rfl⟩
theorem VSo.trans {w1 w2 : Wd} {c0 c1 c2 : Nat → Option Nat} {q0 q1 q2 : Nat → Nat} {m0 m1 m2 : Nat} (a : VSo op e r st o w c0 q0 m0 w1 c1 q1 m1) (b : VSo op e r st o w1 c1 q1 m1 w2 c2 q2 m2) : VSo op e r st o w c0 q0 m0 w2 c2 q2 m2 := ⟨b.1, b.2.1, a.2.2.1.trans b.2.2.1, a.2.2.2.1.trans b.2.2.2.1, fun j hj => by rw [b.2.2.2.2 j hj, a.2.2.2.2 j hj]⟩
theorem x_visit {came : Nat → Option Nat} {que : Nat → Nat} {m i y : Nat} (hB : BQ r (ndX op e) st came que m) (hA : AHr w (o + 4) (o + 5) o 7 came que m) (hi : i < m) (hy : y < 288) (hr : r (que i) y) (hn : ndX op e y) : tp (sh_145 o (nI y) (nI (que i)) w) (fun _ w' => ∃ came' que' m', VSo op e r st o w came que m w' came' que' m' ∧ (came' y).isSome = true) := by
  obtain ⟨a1, a2, a3⟩ := hA
  unfold sh_145
  refine tp_if (n0le (by omega)) (tp_if (show nI y < (288 : Int32) from nlt (b := 288) hy (by decide)) ?_)
  rw [ix_nI (by omega), a1 y hy]
  refine tp_gd (ib_nI hy (by decide)) ?_
  cases hc : came y with
  | some x => 
    refine tp_ifn ?_ (tp_some ⟨came, que, m, VSo.refl hB ⟨a1, a2, a3⟩, by rw [hc]; rfl⟩)
    obtain ⟨j, hj, ej⟩ := hB.2.2.2.1 y hy (by rw [hc]; rfl)
    intro z
    have hx : x < 2147483648 := by
      by_cases q : j = 0
      · subst q
        have h7 := hB.2.2.2.2.1.2.2
        rw [← hB.2.2.2.2.1.2.1, ej, hc] at h7
        have := Option.some.inj h7
        omega
      · obtain ⟨k, hk, e1, -⟩ := hB.2.2.2.2.2 j (by omega) hj
        rw [ej, hc] at e1
        have := Option.some.inj e1
        have := (hB.2.1 k (by omega)).1
        omega
    have := (eNone_m1 (b := some x) (fun x' hx' => by cases hx'; exact hx)).mp z
    cases this
  | none =>
    have hm := hB.lt hy hc
    refine tp_if rfl ?_
    rw [a3]
    refine tp_if (n0le (by omega)) (tp_if (show nI m < (288 : Int32) from nlt (b := 288) hm (by decide)) (tp_gd (ib_nI hy (by decide)) (tp_stI ?_)))
    rw [wI_row (show ¬ o = o + 4 by omega), a3, ix_nI (by omega)]
    refine tp_gd (ib_nI hm (by decide)) (tp_stI ?_)
    rw [wI_row (show ¬ o = o + 5 by omega), wI_row (show ¬ o = o + 4 by omega), a3, nI_s]
    refine tp_stI (tp_some ⟨upO came y (some (que i)), upO que m y, m + 1, ⟨hB.add hi hy hc hr hn, ⟨fun x hx => ?_, fun j hj => ?_, wI_same⟩, ⟨by omega, fun j hj => upO_o que y (by omega), fun x hx => ?_⟩, ?_, fun j hj => ?_⟩, by rw [upO_s]; rfl⟩)
    · rw [wI_row (by omega), wI_row (by omega), wI_up]
      unfold up upO
      by_cases q : x = y
      · rw [if_pos q, if_pos q]; rfl
      · rw [if_neg q, if_neg q]; exact a1 x hx
    · rw [wI_row (by omega), wI_up, wI_row (by omega)]
      unfold up upO
      by_cases q : j = m
      · rw [if_pos q, if_pos q]
      · rw [if_neg q, if_neg q]; exact a2 j (by omega)
    · by_cases q : x = y
      · subst q; rw [upO_s]; rfl
      · rw [upO_o came _ q]; exact hx
    · exact ((kp0 (P := lkP o) (Or.inr (Or.inl rfl))).trans (kp0 (Or.inr (Or.inr rfl)))).trans (kp0 (Or.inl rfl))
    · rw [wI_other hj, wI_row (by omega), wI_row (by omega)]
/-- all of the places next to a place are come to -/
def allN (r : Nat → Nat → Prop) (x : Nat) (came : Nat → Option Nat) : Prop := ∀ y, y < 288 → r x y → (came y).isSome = true
theorem x_outOn (hF : WF S) (hR : HR S w h) (hh : h + 9 < o) {n : Int} (hL : FLW S op s e f c n) (hop : ∀ t, op t → onR S t) (hs : op s) (hse : ¬ s = e) (e0 : wI w o 0 = nI s) (hf : FAr S w (o + 3) f) (hc : CAr s e w (o + 2) c) (hsh : SHr S w (o + 1) op) {came : Nat → Option Nat} {que : Nat → Nat} {m i u : Nat} (hB : BQ (rsx S op s e f c) (ndX op e) st came que m) (hA : AHr w (o + 4) (o + 5) o 7 came que m) (hi : i < m) (hq : que i = 2 * u + 1) : tp (sh_147 o h (nI u) w) (fun _ w' => ∃ came' que' m', VSo op e (rsx S op s e f c) st o w came que m w' came' que' m' ∧ allN (rsx S op s e f c) (que i) came') := by
  have hnd := (hB.2.1 i hi).2.2
  have hou : op u := by have := hnd.1; rw [hq, show (2 * u + 1) / 2 = u by omega] at this; exact this
  have hue : ¬ u = e := fun z => hnd.2 (by rw [hq, z])
  have hu := hop u hou
  have hu8 := hu.lt hF
  have hs8 := (hop s hs).lt hF
  unfold sh_147
  refine tp_if (n0le (by omega)) (tp_ifn (show ¬ (144 : Int32) ≤ nI u from nnle (a := 144) hu8 (by decide)) ?_)
  rw [ix_nI (by omega)]
  refine tp_gd (ib_nI hu8 (by decide)) (tp_jn ?_)
  have rest : ∀ (w1 : Wd) (c1 : Nat → Option Nat) (q1 : Nat → Nat) (m1 : Nat), VSo op e (rsx S op s e f c) st o w came que m w1 c1 q1 m1 → ((u = s ∨ c u) → (c1 (2 * u)).isSome = true) → tp (itM (fun (v3_5 : Int32) (w7 : Wd) => if v3_5 < 4 then (cl (sh_55 h (nI u) v3_5 w7) (fun r10 w9 => if 0 ≤ r10 then (if r10 < 144 then (gd (ib r10 144) (if wI w9 (o + 1) (ix r10) = 0 then (if r10 = wI w9 o 0 then (lt (v3_5 + 1 : Int32) (fun v3_15 => some (.inl v3_15, w9))) else (gd (ib ((nI u * 4) + v3_5) 576) (if wI w9 (o + 3) (ix ((nI u * 4) + v3_5)) = 0 then (cl (sh_145 o (2 * r10) ((2 * nI u) + 1) w9) (fun _ w17 => lt (v3_5 + 1 : Int32) (fun v3_19 => some (.inl v3_19, w17)))) else (lt (v3_5 + 1 : Int32) (fun v3_20 => some (.inl v3_20, w9)))))) else (lt (v3_5 + 1 : Int32) (fun v3_21 => some (.inl v3_21, w9))))) else (lt (v3_5 + 1 : Int32) (fun v3_22 => some (.inl v3_22, w9)))) else (lt (v3_5 + 1 : Int32) (fun v3_23 => some ((.inl v3_23 : Int32 ⊕ Unit), w9))))) else (some (.inr (()), w7))) FU 0 w1) (fun _ w' => ∃ came' que' m', VSo op e (rsx S op s e f c) st o w came que m w' came' que' m' ∧ allN (rsx S op s e f c) (que i) came') := by
    intro w1 c1 q1 m1 hV hin
    refine tp_it (fun d s' w' => s' = nI d ∧ d ≤ 4 ∧ ∃ c2 q2 m2, VSo op e (rsx S op s e f c) st o w came que m w' c2 q2 m2 ∧ ((u = s ∨ c u) → (c2 (2 * u)).isSome = true) ∧ ∀ d' v, d' < d → beN S u d' = some v → op v → ¬ v = s → ¬ f u v → (c2 (2 * v)).isSome = true) 4 (by omega) ⟨rfl, Nat.zero_le _, c1, q1, m1, hV, hin, fun d' v hd => by omega⟩ (fun d s' w' hI => ?_)
    obtain ⟨es, hd, c2, q2, m2, hV, hin, hdn⟩ := hI
    subst es
    refine tp_ite (fun hlt => ?_) (fun hlt => ?_)
    · have hd4 : d < 4 := (nlt_i (by omega) (by decide)).mp (show nI d < nI 4 from hlt)
      obtain ⟨v1, v2, v3, v4, v5⟩ := hV
      have hR' : HR S w' h := hR.kp v4 (fun q a b z => by unfold lkP at z; omega)
      have kI : ∀ q, ¬ lkP o q → wI w' q = wI w q := fun q hq => v4.I hq
      refine tp_ce (x_stepFrom hF hR' hu hd4) ?_
      rw [nI_s]
      have skip : (∀ v, beN S u d = some v → op v → ¬ v = s → ¬ f u v → False) → tp (lt (nI (d + 1) : Int32) (fun v3_21 => some ((.inl v3_21 : Int32 ⊕ Unit), w'))) (lpQ (fun s' w' => d < 4 ∧ s' = nI (d + 1) ∧ d + 1 ≤ 4 ∧ ∃ c2 q2 m2, VSo op e (rsx S op s e f c) st o w came que m w' c2 q2 m2 ∧ ((u = s ∨ c u) → (c2 (2 * u)).isSome = true) ∧ ∀ d' v, d' < d + 1 → beN S u d' = some v → op v → ¬ v = s → ¬ f u v → (c2 (2 * v)).isSome = true) (fun _ w' => ∃ came' que' m', VSo op e (rsx S op s e f c) st o w came que m w' came' que' m' ∧ allN (rsx S op s e f c) (que i) came')) := by
        intro hno
        refine tp_lt (tp_on ⟨hd4, rfl, by omega, c2, q2, m2, ⟨v1, v2, v3, v4, v5⟩, hin, fun d' v hd' e1 e2 e3 e4 => ?_⟩)
        by_cases q : d' = d
        · subst q; exact absurd (hno v e1 e2 e3 e4) id
        · exact hdn d' v (by omega) e1 e2 e3 e4
      cases hb : beN S u d with
      | none => exact tp_ifn (by decide) (skip (fun v z => by rw [hb] at z; cases z))
      | some v =>
        obtain ⟨hv, hv8⟩ := beN_on hF hu hb
        rw [show eNone (some v) = nI v from rfl, ix_nI (by omega)]
        refine tp_if (n0le (by omega)) (tp_if (show nI v < (144 : Int32) from nlt (b := 144) hv8 (by decide)) (tp_gd (ib_nI hv8 (by decide)) ?_))
        rw [kI (o + 1) (by unfold lkP; omega)]
        refine tp_ite (fun z1 => ?_) (fun z1 => ?_)
        · have hov : op v := by
            rcases Classical.em (op v) with z | z
            · exact z
            · rw [(hsh v hv).2 z] at z1; exact absurd z1 (by decide)
          rw [v5 0 (by decide), e0]
          refine tp_ite (fun z2 => ?_) (fun z2 => ?_)
          · have hvs : v = s := (nI_eq (by omega) (by omega)).mp z2
            exact skip (fun v' z _ h3 _ => by rw [hb] at z; cases z; exact h3 hvs)
          · have hvs : ¬ v = s := fun z => z2 (by rw [z])
            rw [l4, nI_m, nI_p, ix_nI (by omega), kI (o + 3) (by unfold lkP; omega), Nat.mul_comm u 4]
            obtain ⟨f1, f2⟩ := hf u v d hu hv8 hd4 hb
            refine tp_gd (ib_nI (by omega) (by decide)) (tp_ite (fun z3 => ?_) (fun z3 => ?_))
            · have hnf : ¬ f u v := fun z => by rw [f1 z] at z3; exact absurd z3 (by decide)
              have hq2 : q2 i = 2 * u + 1 := by rw [v3.2.1 i hi]; exact hq
              rw [l2, l1, nI_m, nI_m, nI_p, ← hq2]
              refine tp_cl (x_visit (y := 2 * v) v1 v2 (by have := v3.1; omega) (by omega) (by rw [hq2]; exact Or.inl (Or.inl ⟨u, v, rfl, rfl, hu8, hv8, ⟨d, hd4, hb⟩, hou, hov, hvs, hue, hnf⟩)) ⟨by rw [show 2 * v / 2 = v by omega]; exact hov, by omega⟩) (fun _ w2 h2 => ?_)
              obtain ⟨c3, q3, m3, hV3, hvis⟩ := h2
              refine tp_lt (tp_on ⟨hd4, rfl, by omega, c3, q3, m3, VSo.trans ⟨v1, v2, v3, v4, v5⟩ hV3, fun z => hV3.2.2.1.2.2 _ (hin z), fun d' v' hd' e1 e2 e3 e4 => ?_⟩)
              by_cases q : d' = d
              · subst q
                rw [hb] at e1
                cases e1
                exact hvis
              · exact hV3.2.2.1.2.2 _ (hdn d' v' (by omega) e1 e2 e3 e4)
            · exact skip (fun v' z _ _ h4 => by rw [hb] at z; cases z; exact z3 (f2 h4))
        · exact skip (fun v' z h2 _ _ => by rw [hb] at z; cases z; exact z1 ((hsh v hv).1 h2))
    · have hd4 : d = 4 := by
        by_cases q : d < 4
        · exact absurd (nlt q (by decide) : nI d < nI 4) hlt
        · omega
      subst hd4
      refine tp_out ⟨c2, q2, m2, hV, fun y hy hr => ?_⟩
      rw [hq] at hr
      rcases hr with (⟨u', v, e1, e2, g1, g2, ⟨d, hd4, hb⟩, g4, g5, g6, g7, g8⟩ | ⟨u', v, e1, -⟩ | ⟨t, e1, -⟩ | ⟨t, e1, e2, g1, g2, g3, g4⟩) | ⟨e1, e2⟩
      · have : u' = u := by omega
        subst this
        rw [e2]
        exact hdn d v hd4 hb g5 g6 g8
      · omega
      · omega
      · have : t = u := by omega
        subst this
        rw [e2]
        exact hin (Or.inr g4)
      · have : u = s := by omega
        rw [e2, ← this]
        exact hin (Or.inl this)
  refine tp_ite (fun z => ?_) (fun z => ?_)
  · refine rest w came que m (VSo.refl hB hA) (fun y => ?_)
    rcases y with y | y
    · rw [(hc u hu8).1 (Or.inl y)] at z; exact absurd z (by decide)
    · by_cases q : u = s
      · rw [(hc u hu8).1 (Or.inl q)] at z; exact absurd z (by decide)
      · rw [((hc u hu8).2 q hue).1 y] at z; exact absurd z (by decide)
  · have hcu : u = s ∨ c u := by
      by_cases q : u = s
      · exact Or.inl q
      · rcases Classical.em (c u) with y | y
        · exact Or.inr y
        · exact absurd (((hc u hu8).2 q hue).2 y) z
    have hvz : tp (sh_145 o (2 * nI u) ((2 * nI u) + 1) w) (fun _ w' => ∃ came' que' m', VSo op e (rsx S op s e f c) st o w came que m w' came' que' m' ∧ (came' (2 * u)).isSome = true) := by
      rw [l2, l1, nI_m, nI_p, ← hq]
      refine x_visit (y := 2 * u) hB hA hi (by omega) ?_ ⟨by rw [show 2 * u / 2 = u by omega]; exact hou, by omega⟩
      rw [hq]
      by_cases q : u = s
      · subst q; exact Or.inr ⟨rfl, rfl⟩
      · rcases hcu with y | y
        · exact absurd y q
        · exact Or.inl (Or.inr (Or.inr (Or.inr ⟨u, rfl, rfl, hu8, q, hue, y⟩)))
    refine tp_cl hvz (fun _ w2 h2 => ?_)
    obtain ⟨c1, q1, m1, hV, hvis⟩ := h2
    exact rest w2 c1 q1 m1 hV (fun _ => hvis)
theorem x_inOn (hF : WF S) (hR : HR S w h) (hh : h + 9 < o) {n : Int} (hL : FLW S op s e f c n) (hop : ∀ t, op t → onR S t) (hs : op s) (hse : ¬ s = e) (hf : FAr S w (o + 3) f) (hc : CAr s e w (o + 2) c) {came : Nat → Option Nat} {que : Nat → Nat} {m i t : Nat} (hB : BQ (rsx S op s e f c) (ndX op e) st came que m) (hA : AHr w (o + 4) (o + 5) o 7 came que m) (hi : i < m) (hq : que i = 2 * t) : tp (sh_146 o h (nI t) w) (fun _ w' => ∃ came' que' m', VSo op e (rsx S op s e f c) st o w came que m w' came' que' m' ∧ allN (rsx S op s e f c) (que i) came') := by
  have hnd := (hB.2.1 i hi).2.2
  have hot : op t := by have := hnd.1; rw [hq, show 2 * t / 2 = t by omega] at this; exact this
  have ht := hop t hot
  have ht8 := ht.lt hF
  unfold sh_146
  refine tp_if (n0le (by omega)) (tp_ifn (show ¬ (144 : Int32) ≤ nI t from nnle (a := 144) ht8 (by decide)) ?_)
  rw [ix_nI (by omega)]
  refine tp_gd (ib_nI ht8 (by decide)) (tp_ite (fun z => ?_) (fun z => ?_))
  · have hts : ¬ t = s := fun q => by rw [(hc t ht8).1 (Or.inl q)] at z; exact absurd z (by decide)
    have hte : ¬ t = e := fun q => by rw [(hc t ht8).1 (Or.inr q)] at z; exact absurd z (by decide)
    have hnc : ¬ c t := fun q => by rw [((hc t ht8).2 hts hte).1 q] at z; exact absurd z (by decide)
    have hvz : tp (sh_145 o ((2 * nI t) + 1) (2 * nI t) w) (fun _ w' => ∃ came' que' m', VSo op e (rsx S op s e f c) st o w came que m w' came' que' m' ∧ (came' (2 * t + 1)).isSome = true) := by
      rw [l2, l1, nI_m, nI_p, ← hq]
      refine x_visit (y := que i + 1) hB hA hi (by omega) (Or.inl (Or.inr (Or.inr (Or.inl ⟨t, hq, by rw [hq], ht8, hts, hte, hot, hnc⟩)))) ⟨by rw [hq, show (2 * t + 1) / 2 = t by omega]; exact hot, by omega⟩
    refine tp_cl hvz (fun _ w2 h2 => ?_)
    obtain ⟨c1, q1, m1, hV, hvis⟩ := h2
    refine tp_some ⟨c1, q1, m1, hV, fun y hy hr => ?_⟩
    rw [hq] at hr
    rcases hr with (⟨u', v, e1, -⟩ | ⟨u', v, e1, e2, g1, g2, g3⟩ | ⟨t', e1, e2, -⟩ | ⟨t', e1, -⟩) | ⟨e1, e2⟩
    · omega
    · exfalso
      have : v = t := by omega
      subst this
      have h1 := (hL.2.1 v ht8 hts hte).1
      rw [iv_f hnc] at h1
      have h2 := zs_ge (n := 144) (k := u') (f := fun u => iv (f u v)) g1 (fun i _ => by rcases iv_01 (f i v) with q | q <;> rw [q] <;> decide)
      rw [iv_t g3, h1] at h2
      exact absurd h2 (by decide)
    · have : t' = t := by omega
      subst this
      rw [e2]; exact hvis
    · omega
    · omega
  · refine tp_it (fun d s' w' => s' = nI d ∧ d ≤ 4 ∧ ∃ c2 q2 m2, VSo op e (rsx S op s e f c) st o w came que m w' c2 q2 m2 ∧ ∀ d' u, d' < d → beN S t d' = some u → f u t → (c2 (2 * u + 1)).isSome = true) 4 (by omega) ⟨rfl, Nat.zero_le _, came, que, m, VSo.refl hB hA, fun d' v hd => by omega⟩ (fun d s' w' hI => ?_)
    obtain ⟨es, hd, c2, q2, m2, hV, hdn⟩ := hI
    subst es
    refine tp_ite (fun hlt => ?_) (fun hlt => ?_)
    · have hd4 : d < 4 := (nlt_i (by omega) (by decide)).mp (show nI d < nI 4 from hlt)
      obtain ⟨v1, v2, v3, v4, v5⟩ := hV
      have hR' : HR S w' h := hR.kp v4 (fun q a b z => by unfold lkP at z; omega)
      refine tp_ce (x_stepFrom hF hR' ht hd4) ?_
      rw [nI_s]
      have skip : (∀ u, beN S t d = some u → f u t → False) → tp (lt (nI (d + 1) : Int32) (fun v3_21 => some ((.inl v3_21 : Int32 ⊕ Unit), w'))) (lpQ (fun s' w' => d < 4 ∧ s' = nI (d + 1) ∧ d + 1 ≤ 4 ∧ ∃ c2 q2 m2, VSo op e (rsx S op s e f c) st o w came que m w' c2 q2 m2 ∧ ∀ d' u, d' < d + 1 → beN S t d' = some u → f u t → (c2 (2 * u + 1)).isSome = true) (fun _ w' => ∃ came' que' m', VSo op e (rsx S op s e f c) st o w came que m w' came' que' m' ∧ allN (rsx S op s e f c) (que i) came')) := by
        intro hno
        refine tp_lt (tp_on ⟨hd4, rfl, by omega, c2, q2, m2, ⟨v1, v2, v3, v4, v5⟩, fun d' v hd' e1 e2 => ?_⟩)
        by_cases q : d' = d
        · subst q; exact absurd (hno v e1 e2) id
        · exact hdn d' v (by omega) e1 e2
      cases hb : beN S t d with
      | none => exact tp_ifn (by decide) (skip (fun v z => by rw [hb] at z; cases z))
      | some u =>
        obtain ⟨hu, hu8⟩ := beN_on hF ht hb
        have hbk := beN_back hF ht hd4 hb
        have hd2 : (d + 2) % 4 < 4 := Nat.mod_lt _ (by decide)
        rw [show eNone (some u) = nI u from rfl, l4, nI_m, l2, nI_p, nI_rem (by omega) (by decide) (by decide), nI_p, ix_nI (by omega), v4.I (k := o + 3) (by unfold lkP; omega), Nat.mul_comm u 4]
        obtain ⟨f1, f2⟩ := hf u t _ hu ht8 hd2 hbk
        refine tp_if (n0le (by omega)) (tp_if (show nI u < (144 : Int32) from nlt (b := 144) hu8 (by decide)) (tp_gd (ib_nI (by omega) (by decide)) (tp_ite (fun z1 => ?_) (fun z1 => ?_))))
        · exact skip (fun u' z q => by rw [hb] at z; cases z; rw [f1 q] at z1; exact absurd z1 (by decide))
        · have hfu : f u t := by
            rcases Classical.em (f u t) with q | q
            · exact q
            · exact absurd (f2 q) z1
          have hq2 : q2 i = 2 * t := by rw [v3.2.1 i hi]; exact hq
          have hvz : tp (sh_145 o ((nI 2 * nI u) + 1) (nI 2 * nI t) w') (fun _ w'' => ∃ came' que' m', VSo op e (rsx S op s e f c) st o w' c2 q2 m2 w'' came' que' m' ∧ (came' (2 * u + 1)).isSome = true) := by
            rw [l1, nI_m, nI_m, nI_p, ← hq2]
            refine x_visit (y := 2 * u + 1) v1 v2 (by have := v3.1; omega) (by omega) (by rw [hq2]; exact Or.inl (Or.inr (Or.inl ⟨u, t, rfl, rfl, hu8, ht8, hfu⟩))) ⟨by rw [show (2 * u + 1) / 2 = u by omega]; exact (hL.1 u t hfu).2.1, fun y => (hL.1 u t hfu).2.2.2.2 (by omega)⟩
          refine tp_cl hvz (fun _ w2 h2 => ?_)
          obtain ⟨c3, q3, m3, hV3, hvis⟩ := h2
          refine tp_lt (tp_on ⟨hd4, rfl, by omega, c3, q3, m3, VSo.trans ⟨v1, v2, v3, v4, v5⟩ hV3, fun d' u' hd' e1 e2 => ?_⟩)
          by_cases q : d' = d
          · subst q
            rw [hb] at e1
            cases e1
            exact hvis
          · exact hV3.2.2.1.2.2 _ (hdn d' u' (by omega) e1 e2)
    · have hd4 : d = 4 := by
        by_cases q : d < 4
        · exact absurd (nlt q (by decide) : nI d < nI 4) hlt
        · omega
      subst hd4
      refine tp_out ⟨c2, q2, m2, hV, fun y hy hr => ?_⟩
      rw [hq] at hr
      rcases hr with (⟨u', v, e1, -⟩ | ⟨u', v, e1, e2, g1, g2, g3⟩ | ⟨t', e1, e2, g1, g2, g3, g4, g5⟩ | ⟨t', e1, -⟩) | ⟨e1, e2⟩
      · omega
      · have : v = t := by omega
        subst this
        obtain ⟨d, hd4, hb⟩ := (hL.1 u' v g3).1
        have hbk := beN_back hF (hop u' (hL.1 u' v g3).2.1) hd4 hb
        rw [e2]
        exact hdn _ u' (Nat.mod_lt _ (by decide)) hbk g3
      · exfalso
        have : t' = t := by omega
        subst this
        exact z (((hc t' ht8).2 g2 g3).2 g5)
      · omega
      · omega
/-- how the search ends -/
def goR (op : Nat → Prop) (e : Nat) (r : Nat → Nat → Prop) (st gl o : Nat) (w' : Wd) (v : Bool) : Prop := ∃ came que m, BQ r (ndX op e) st came que m ∧ AHr w' (o + 4) (o + 5) o 7 came que m ∧ ((v = true ∧ ∃ i, i < m ∧ que i = gl) ∨ (v = false ∧ (∀ j, j < m → ¬ que j = gl) ∧ ∀ x y, x < 288 → y < 288 → (came x).isSome = true → r x y → (came y).isSome = true))
theorem x_canGo (hF : WF S) (hR : HR S w h) (hh : h + 9 < o) {n : Int} (hL : FLW S op s e f c n) (hop : ∀ t, op t → onR S t) (hs : op s) (hse : ¬ s = e) (e0 : wI w o 0 = nI s) (hf : FAr S w (o + 3) f) (hc : CAr s e w (o + 2) c) (hsh : SHr S w (o + 1) op) {gl : Nat} (hst : st < 288) (hgl : gl < 288) (hnd : ndX op e st) : tp (sh_144 o h (nI st) (nI gl) w) (fun v w' => goR op e (rsx S op s e f c) st gl o w' v ∧ Kp (lkP o) w w' ∧ Fo o 7 w w') := by
  unfold sh_144
  refine tp_it (fun j s' w' => s' = nI j ∧ j ≤ 288 ∧ (∀ x, x < j → wI w' (o + 4) x = -1) ∧ Kp (lkP o) w w' ∧ Fo o 7 w w') 288 (by omega) ⟨rfl, Nat.zero_le _, fun x hx => by omega, Kp.refl, fun _ _ => rfl⟩ (fun j s' w' hI => ?_)
  obtain ⟨es, hj, g1, gK, gF⟩ := hI
  subst es
  refine tp_ite (fun hlt => ?_) (fun hlt => ?_)
  · have hj8 : j < 288 := (nlt_i (by omega) (by decide)).mp (show nI j < nI 288 from hlt)
    rw [ix_nI (by omega), nI_s]
    refine tp_gd (ib_nI hj8 (by decide)) (tp_stI (tp_lt (tp_on ⟨hj8, rfl, by omega, fun x hx => ?_, gK.sI (Or.inr (Or.inl rfl)) _ _, fun k hk => by rw [wI_row (by omega)]; exact gF k hk⟩)))
    rw [wI_up]
    unfold up
    by_cases q : x = j
    · rw [if_pos q]
    · rw [if_neg q]; exact g1 x (by omega)
  · have hj8 : j = 288 := by
      by_cases q : j < 288
      · exact absurd (nlt q (by decide) : nI j < nI 288) hlt
      · omega
    subst hj8
    refine tp_stI ?_
    -- the start
    have start : tp (sh_145 o (nI st) (nI st) (sI w' o 7 0)) (fun _ w2 => BQ (rsx S op s e f c) (ndX op e) st (onlyC st) (fun _ => st) 1 ∧ AHr w2 (o + 4) (o + 5) o 7 (onlyC st) (fun _ => st) 1 ∧ Kp (lkP o) w w2 ∧ Fo o 7 w w2) := by
      unfold sh_145
      rw [ix_nI (by omega), wI_row (show ¬ o + 4 = o by omega), g1 st hst, wI_same]
      refine tp_if (n0le (by omega)) (tp_if (show nI st < (288 : Int32) from nlt (b := 288) hst (by decide)) (tp_gd (ib_nI hst (by decide)) (tp_if rfl (tp_if (by decide) (tp_if (by decide) (tp_gd (ib_nI hst (by decide)) (tp_stI ?_)))))))
      rw [wI_row (show ¬ o = o + 4 by omega), wI_same]
      refine tp_gd (by decide) (tp_stI ?_)
      rw [wI_row (show ¬ o = o + 5 by omega), wI_row (show ¬ o = o + 4 by omega), wI_same]
      refine tp_stI (tp_some ⟨⟨?_, fun j hj => ⟨hst, by rw [onlyC_s]; rfl, hnd⟩, fun a b ha hb _ => by omega, fun x hx hv => ?_, ⟨by omega, rfl, onlyC_s st⟩, fun j h0 hj => by omega⟩, ⟨fun x hx => ?_, fun j hj => ?_, wI_same⟩, ?_, fun k hk => ?_⟩)
      · exact onlyC_n hst
      · refine ⟨0, by omega, ?_⟩
        by_cases q : x = st
        · exact q.symm
        · rw [onlyC_o q] at hv; cases hv
      · rw [wI_row (by omega), wI_row (by omega), wI_up, wI_row (by omega)]
        unfold up
        by_cases q : x = st
        · rw [if_pos q, q, onlyC_s]; rfl
        · rw [if_neg q, onlyC_o q]; exact g1 x hx
      · rw [wI_row (by omega), wI_up]
        have : j = 0 := by omega
        subst this
        exact up_s
      · exact (((gK.sI (Or.inl rfl) _ _).sI (Or.inr (Or.inl rfl)) _ _).sI (Or.inr (Or.inr rfl)) _ _).sI (Or.inl rfl) _ _
      · rw [wI_other hk, wI_row (by omega), wI_row (by omega), wI_other hk]; exact gF k hk
    refine tp_cl start (fun _ w2 h2 => ?_)
    obtain ⟨hB0, hA0, hK0, hF0⟩ := h2
    refine tp_it (fun i s' w3 => s' = nI i ∧ i ≤ 288 ∧ ∃ came que m, BQ (rsx S op s e f c) (ndX op e) st came que m ∧ AHr w3 (o + 4) (o + 5) o 7 came que m ∧ i ≤ m ∧ (∀ j, j < i → ¬ que j = gl ∧ allN (rsx S op s e f c) (que j) came) ∧ Kp (lkP o) w w3 ∧ Fo o 7 w w3) 288 (by omega) ⟨rfl, Nat.zero_le _, _, _, _, hB0, hA0, by omega, fun j hj => by omega, hK0, hF0⟩ (fun i s' w3 hI => ?_)
    obtain ⟨es, hi8, came, que, m, hB, hA, him, hex, hK, hFo⟩ := hI
    subst es
    have hR' : HR S w3 h := hR.kp hK (fun q a b z => by unfold lkP at z; omega)
    have kI : ∀ q, ¬ lkP o q → wI w3 q = wI w q := fun q hq => hK.I hq
    have hf' : FAr S w3 (o + 3) f := by unfold FAr; rw [kI (o + 3) (by unfold lkP; omega)]; exact hf
    have hc' : CAr s e w3 (o + 2) c := by unfold CAr; rw [kI (o + 2) (by unfold lkP; omega)]; exact hc
    have hsh' : SHr S w3 (o + 1) op := by unfold SHr; rw [kI (o + 1) (by unfold lkP; omega)]; exact hsh
    have e0' : wI w3 o 0 = nI s := by rw [hFo 0 (by decide)]; exact e0
    have hm8 : m ≤ 288 := by
      have := cntN_le (fun x => (came x).isSome) 288
      have := hB.1
      omega
    rw [hA.2.2]
    have ends : ¬ i < m → tp (some ((.inr (.inr false) : Int32 ⊕ (Int32 ⊕ Bool)), w3)) (lpQ (fun s' w3 => i < 288 ∧ s' = nI (i + 1) ∧ i + 1 ≤ 288 ∧ ∃ came que m, BQ (rsx S op s e f c) (ndX op e) st came que m ∧ AHr w3 (o + 4) (o + 5) o 7 came que m ∧ i + 1 ≤ m ∧ (∀ j, j < i + 1 → ¬ que j = gl ∧ allN (rsx S op s e f c) (que j) came) ∧ Kp (lkP o) w w3 ∧ Fo o 7 w w3) (lpQ (fun s' w' => 288 < 288 ∧ s' = nI (288 + 1) ∧ 288 + 1 ≤ 288 ∧ (∀ x, x < 288 + 1 → wI w' (o + 4) x = -1) ∧ Kp (lkP o) w w' ∧ Fo o 7 w w') (fun v w' => goR op e (rsx S op s e f c) st gl o w' v ∧ Kp (lkP o) w w' ∧ Fo o 7 w w'))) := by
      intro hn
      have : i = m := by omega
      subst this
      refine tp_oout ⟨⟨came, que, i, hB, hA, Or.inr ⟨rfl, fun j hj => (hex j hj).1, fun x y hx hy hv hr => ?_⟩⟩, hK, hFo⟩
      obtain ⟨j, hj, ej⟩ := hB.2.2.2.1 x hx hv
      exact (hex j hj).2 y hy (by rw [ej]; exact hr)
    refine tp_ite (fun hlt => ?_) (fun hlt => ?_)
    · have hi : i < m := (nlt_i (by omega) (by omega)).mp hlt
      have hq8 := (hB.2.1 i hi).1
      rw [ix_nI (by omega), hA.2.1 i hi, nI_s]
      refine tp_if (show nI i < (288 : Int32) from nlt (b := 288) (by omega) (by decide)) (tp_gd (ib_nI (by omega) (by decide)) (tp_ite (fun z => ?_) (fun z => ?_)))
      · exact tp_oout ⟨⟨came, que, m, hB, hA, Or.inl ⟨rfl, i, hi, (nI_eq (by omega) (by omega)).mp z⟩⟩, hK, hFo⟩
      · have hng : ¬ que i = gl := fun y => z (by rw [y])
        have next : ∀ (w4 : Wd) (c4 : Nat → Option Nat) (q4 : Nat → Nat) (m4 : Nat), VSo op e (rsx S op s e f c) st o w3 came que m w4 c4 q4 m4 → allN (rsx S op s e f c) (que i) c4 → tp (lt (nI (i + 1) : Int32) (fun v4_19 => some ((.inl v4_19 : Int32 ⊕ (Int32 ⊕ Bool)), w4))) (lpQ (fun s' w3 => i < 288 ∧ s' = nI (i + 1) ∧ i + 1 ≤ 288 ∧ ∃ came que m, BQ (rsx S op s e f c) (ndX op e) st came que m ∧ AHr w3 (o + 4) (o + 5) o 7 came que m ∧ i + 1 ≤ m ∧ (∀ j, j < i + 1 → ¬ que j = gl ∧ allN (rsx S op s e f c) (que j) came) ∧ Kp (lkP o) w w3 ∧ Fo o 7 w w3) (lpQ (fun s' w' => 288 < 288 ∧ s' = nI (288 + 1) ∧ 288 + 1 ≤ 288 ∧ (∀ x, x < 288 + 1 → wI w' (o + 4) x = -1) ∧ Kp (lkP o) w w' ∧ Fo o 7 w w') (fun v w' => goR op e (rsx S op s e f c) st gl o w' v ∧ Kp (lkP o) w w' ∧ Fo o 7 w w'))) := by
          intro w4 c4 q4 m4 hV hall
          obtain ⟨v1, v2, v3, v4, v5⟩ := hV
          refine tp_lt (tp_on ⟨by omega, rfl, by omega, c4, q4, m4, v1, v2, by have := v3.1; omega, fun j hj => ?_, hK.trans v4, fun k hk => by rw [v5 k hk]; exact hFo k hk⟩)
          rw [v3.2.1 j (by omega)]
          by_cases q : j = i
          · subst q; exact ⟨hng, hall⟩
          · obtain ⟨k1, k2⟩ := hex j (by omega)
            exact ⟨k1, fun y hy hr => v3.2.2 _ (k2 y hy hr)⟩
        rw [l2, nI_rem (by omega) (by decide) (by decide), nI_div (by omega) (by decide) (by decide)]
        refine tp_gd (ib_nI (by omega) (by decide)) (tp_ite (fun z2 => ?_) (fun z2 => ?_))
        · have hev : que i % 2 = 0 := (nI_eq (by omega) (by decide)).mp (show nI (que i % 2) = nI 0 from z2)
          refine tp_gd (ib_nI (by omega) (by decide)) (tp_cl (x_inOn hF hR' hh hL hop hs hse hf' hc' hB hA hi (t := que i / 2) (by omega)) (fun _ w4 h4 => ?_))
          obtain ⟨c4, q4, m4, hV, hall⟩ := h4
          exact next w4 c4 q4 m4 hV hall
        · have hod : que i % 2 = 1 := by
            have : ¬ que i % 2 = 0 := fun y => z2 (by rw [y]; rfl)
            omega
          refine tp_gd (ib_nI (by omega) (by decide)) (tp_cl (x_outOn hF hR' hh hL hop hs hse e0' hf' hc' hsh' hB hA hi (u := que i / 2) (by omega)) (fun _ w4 h4 => ?_))
          obtain ⟨c4, q4, m4, hV, hall⟩ := h4
          exact next w4 c4 q4 m4 hV hall
    · exact ends (fun z => hlt (nlt z (by omega)))
end LK
