/-! crossing: the walks of so many STEPS and marks; the least -/
def frT (S : Nat → Int32) (t : Nat) : Prop := onR S t ∧ S (25 + t) = 0
def Ed (S : Nat → Int32) (u v : Nat) : Prop := ∃ d, d < 4 ∧ beN S u d = some v ∧ frT S v
def mkN (S : Nat → Int32) (p t : Nat) : Nat := if lyS S t = true ∧ S (437 + 4 * t) = S (13 + p) then 0 else 1
def wkN (S : Nat → Int32) (p f : Nat) : Nat → Nat → Nat → Prop
  | 0, m, t => t = f ∧ m = mkN S p f
  | n + 1, m, t => ∃ u m', wkN S p f n m' u ∧ Ed S u t ∧ m = m' + mkN S p t
def crSpec (S : Nat → Int32) (p f t : Nat) (r : Option (Nat × Nat)) : Prop := match r with
  | none => ∀ n m, ¬ wkN S p f n m t
  | some q => q.2 ≤ 144 ∧ q.1 ≤ 145 ∧ wkN S p f q.2 q.1 t ∧ ∀ K, 1000 ≤ K → ∀ n m, wkN S p f n m t → K * q.1 + q.2 ≤ K * m + n
def upN (c : Nat → Nat) (k v : Nat) : Nat → Nat := fun i => if i = k then v else c i
theorem upN_s (c : Nat → Nat) (k v : Nat) : upN c k v k = v := if_pos rfl
theorem upN_o (c : Nat → Nat) {i k : Nat} (v : Nat) (h : ¬ i = k) : upN c k v i = c i := if_neg h
theorem mkN_le (S : Nat → Int32) (p t : Nat) : mkN S p t ≤ 1 := by unfold mkN; split <;> omega
section CR
variable {S : Nat → Int32} {w : Wd} {h r o p f : Nat}
theorem Ed.lt (hF : WF S) {u v : Nat} (he : Ed S u v) : v < 144 := by
  obtain ⟨d, hd, e, ho, -⟩ := he
  exact ho.lt hF
theorem wk_lt (hF : WF S) (hf : f < 144) {n m t : Nat} (h : wkN S p f n m t) : t < 144 := by
  cases n with
  | zero => rw [h.1]; exact hf
  | succ n =>
    obtain ⟨u, m', -, he, -⟩ := h
    exact he.lt hF
def ph (K x : Nat) : Nat := K * (x / 1000) + x % 1000
theorem ph_mono {K x y : Nat} (hK : 1000 ≤ K) (h : x ≤ y) : ph K x ≤ ph K y := by
  unfold ph
  by_cases q : x / 1000 = y / 1000
  · rw [q]; omega
  · have h2 : x / 1000 + 1 ≤ y / 1000 := by omega
    have h3 := Nat.mul_le_mul_left K h2
    rw [Nat.mul_add, Nat.mul_one] at h3
    have := Nat.mod_lt x (show 0 < 1000 by decide)
    omega
theorem ph_e {K m n : Nat} (h : n < 1000) : ph K (1000 * m + n) = K * m + n := by
  unfold ph
  rw [show (1000 * m + n) / 1000 = m by omega, show (1000 * m + n) % 1000 = n by omega]
/-- nearest first: i settled -/
def DJ (S : Nat → Int32) (p f i : Nat) (c : Nat → Nat) (X : Nat → Bool) : Prop :=
  (∀ t, t < 144 → c t ≤ 1000000) ∧
  (∀ t, t < 144 → c t < 1000000 → frT S t ∧ ∃ n m, n ≤ i ∧ m ≤ n + 1 ∧ c t = 1000 * m + n ∧ wkN S p f n m t) ∧
  (∀ u v, u < 144 → X u = true → Ed S u v → c v ≤ c u + 1 + 1000 * mkN S p v) ∧
  (∀ u v, u < 144 → v < 144 → X u = true → X v = false → c u ≤ c v) ∧
  (∀ u, u < 144 → X u = true → c u < 1000000) ∧ c f ≤ 1000 * mkN S p f
theorem DJ.step (hF : WF S) {i u : Nat} {c c' : Nat → Nat} {X : Nat → Bool} (hD : DJ S p f i c X) (hf : f < 144) (hu : u < 144) (hX : X u = false) (hc : c u < 1000000) (hmin : ∀ t, t < 144 → X t = false → c u ≤ c t) (ha : ∀ v, v < 144 → c' v ≤ c v) (hb : ∀ v, v < 144 → c' v = c v ∨ Ed S u v ∧ c' v = c u + 1 + 1000 * mkN S p v) (hd : ∀ v, Ed S u v → c' v ≤ c u + 1 + 1000 * mkN S p v) : DJ S p f (i + 1) c' (upB X u true) := by
  obtain ⟨d1, d2, d3, d4, d5, d6⟩ := hD
  have cu : c' u = c u := by
    have := ha u hu
    rcases hb u hu with q | ⟨-, q⟩ <;> omega
  have cX : ∀ a, a < 144 → X a = true → c' a = c a := fun a h1 h2 => by
    have := ha a h1
    have := d4 a u h1 hu h2 hX
    rcases hb a h1 with q | ⟨-, q⟩ <;> omega
  have cX' : ∀ a, a < 144 → upB X u true a = true → c' a = c a ∧ c a ≤ c u := fun a h1 h2 => by
    by_cases q : a = u
    · subst q; exact ⟨cu, Nat.le_refl _⟩
    · rw [upB_o X true q] at h2
      exact ⟨cX a h1 h2, d4 a u h1 hu h2 hX⟩
  refine ⟨fun t ht => Nat.le_trans (ha t ht) (d1 t ht), fun t ht hct => ?_, fun a v h1 h2 he => ?_, fun a v h1 h2 h3 h4 => ?_, fun a h1 h2 => ?_, Nat.le_trans (ha f hf) d6⟩
  · rcases hb t ht with q | ⟨he, q⟩
    · rw [q] at hct ⊢
      obtain ⟨g1, n, m, g2, g3, g4, g5⟩ := d2 t ht hct
      exact ⟨g1, n, m, by omega, g3, g4, g5⟩
    · obtain ⟨g1, n, m, g2, g3, g4, g5⟩ := d2 u hu hc
      have := mkN_le S p t
      obtain ⟨d, hd4, e, ho⟩ := he
      exact ⟨ho, n + 1, m + mkN S p t, by omega, by omega, by rw [q, g4]; omega, u, m, g5, ⟨d, hd4, e, ho⟩, rfl⟩
  · have hv := he.lt hF
    by_cases q : a = u
    · subst q; rw [cu]; exact hd v he
    · rw [upB_o X true q] at h2
      rw [cX a h1 h2]
      exact Nat.le_trans (ha v hv) (d3 a v h1 h2 he)
  · obtain ⟨e1, e2⟩ := cX' a h1 h3
    have hvu : ¬ v = u := fun q => by subst q; rw [upB_s] at h4; cases h4
    rw [upB_o X true hvu] at h4
    have e3 : c a ≤ c v := by
      by_cases q : a = u
      · subst q; exact hmin v h2 h4
      · rw [upB_o X true q] at h3; exact d4 a v h1 h2 h3 h4
    rw [e1]
    rcases hb v h2 with q | ⟨-, q⟩ <;> omega
  · obtain ⟨e1, e2⟩ := cX' a h1 h2
    omega
theorem DJ.fin (hF : WF S) {i t : Nat} {c : Nat → Nat} {X : Nat → Bool} (hi : i ≤ 144) (hf : f < 144) (ht : t < 144) (hD : DJ S p f i c X) (hX : ∀ u, u < 144 → X u = false → c u < 1000000 → c t ≤ c u ∧ c t < 1000000) : crSpec S p f t (if c t < 1000000 then some (c t / 1000, c t % 1000) else none) := by
  obtain ⟨d1, d2, d3, d4, d5, d6⟩ := hD
  have key : ∀ K, 1000 ≤ K → ∀ n m v, wkN S p f n m v → (c v < 1000000 ∧ ph K (c v) ≤ K * m + n) ∨ (c t < 1000000 ∧ ph K (c t) ≤ K * m + n) := by
    intro K hK n
    induction n with
    | zero =>
      intro m v hw
      obtain ⟨e1, e2⟩ := hw
      left
      have h1 := mkN_le S p f
      have h2 := ph_mono hK d6
      have h3 := ph_e (K := K) (m := mkN S p f) (n := 0) (by decide)
      rw [Nat.add_zero] at h3
      rw [h3] at h2
      rw [e1, e2]
      exact ⟨by omega, h2⟩
    | succ n ih =>
      intro m v hw
      obtain ⟨u, m', hw', he, em⟩ := hw
      have hu := wk_lt hF hf hw'
      have hv := he.lt hF
      have hm := mkN_le S p v
      have eK : K * m = K * m' + K * mkN S p v := by rw [em, Nat.mul_add]
      rcases ih m' u hw' with ⟨g1, g2⟩ | ⟨g1, g2⟩
      · cases hXu : X u with
        | true =>
          left
          have h1 := d3 u v hu hXu he
          obtain ⟨-, n1, m1, h2, h3, h4, -⟩ := d2 u hu g1
          have h5 := ph_mono hK h1
          have h6 : c u + 1 + 1000 * mkN S p v = 1000 * (m1 + mkN S p v) + (n1 + 1) := by omega
          rw [h6, ph_e (by omega), Nat.mul_add] at h5
          rw [h4, ph_e (by omega)] at g2
          exact ⟨by omega, by omega⟩
        | false =>
          right
          obtain ⟨h1, h2⟩ := hX u hu hXu g1
          have h3 := ph_mono hK h1
          exact ⟨h2, by omega⟩
      · right
        exact ⟨g1, by omega⟩
  by_cases hc : c t < 1000000
  · rw [if_pos hc]
    obtain ⟨-, n, m, g2, g3, g4, g5⟩ := d2 t ht hc
    have e1 : c t / 1000 = m := by omega
    have e2 : c t % 1000 = n := by omega
    rw [e1, e2]
    refine ⟨by show n ≤ 144; omega, by show m ≤ 145; omega, g5, fun K hK n' m' hw => ?_⟩
    have := key K hK n' m' t hw
    rw [g4, ph_e (by omega)] at this
    show K * m + n ≤ _
    omega
  · rw [if_neg hc]
    intro n m hw
    rcases key 1000 (Nat.le_refl _) n m t hw with q | q
    · exact hc q.1
    · exact hc q.1
/-! the class -/
def frB (S : Nat → Int32) (t : Int32) : Bool := isT S t && !isWl S t
theorem frB_t (hF : WF S) {t : Int32} (h : frB S t = true) : ∃ k, t = nI k ∧ k < 144 ∧ frT S k := by
  unfold frB at h
  rw [Bool.and_eq_true] at h
  obtain ⟨k, e, hk, ho⟩ := isT_t hF h.1
  subst e
  refine ⟨k, rfl, hk, ho, ?_⟩
  have h2 := h.2
  rcases hF.2.2.2.2.2.2.2.1 k hk with q | q
  · exact q
  · have e : isWl S (nI k) = true := by
      unfold isWl
      rw [decide_eq_true (n0le (by omega)), decide_eq_true (jl hk (by decide)), ix_nI (by omega), q]; rfl
    rw [e] at h2
    cases h2
theorem frB_of (hF : WF S) {k : Nat} (h : frT S k) : frB S (nI k) = true := by
  have hk := h.1.lt hF
  unfold frB isWl
  rw [isT_of hF h.1, decide_eq_true (n0le (by omega)), decide_eq_true (jl hk (by decide)), ix_nI (by omega), h.2]; rfl
theorem x_isFree (hF : WF S) (hR : HR S w h) (t : Int32) : sh_123 h t w = some (frB S t, w) := by
  unfold sh_123 frB
  rw [cl_e (x_onRug hF hR t)]
  by_cases h1 : isT S t = true
  · rw [if_pos h1, cl_e (x_isWall hF hR t), h1]
    cases isWl S t <;> rfl
  · have : isT S t = false := by simpa using h1
    rw [this]; rfl
theorem x_markOf (hF : WF S) (hr : RR S w r) {t : Nat} (ht : t < 144) (hp : p < ix (S 2)) : sh_124 r (nI t) (S (13 + p)) w = some (nI (1000 * mkN S p t), w) := by
  obtain ⟨-, ⟨a, ea, ha⟩, -⟩ := hF.2.2.2.2.2.2.1 p hp
  unfold sh_124 mkN
  rw [cl_e (x_soleOn hr ht), lt_s_]
  by_cases h1 : lyS S t = true
  · rw [if_pos h1]
    by_cases h2 : S (437 + 4 * t) = S (13 + p)
    · rw [if_pos h2, if_pos ⟨h1, h2⟩]; rfl
    · rw [if_neg h2, if_neg (fun z => h2 z.2)]; rfl
  · have hne : ¬ (-1 : Int32) = S (13 + p) := by
      rw [ea, i_eq, i_nI (by omega)]
      show ¬ (-1 : Int) = a
      omega
    rw [if_neg h1, if_neg hne, if_neg (fun z => h1 z.1)]; rfl
theorem x_nearest {c : Nat → Nat} {X : Nat → Bool} (hc : ∀ t, t < 144 → c t ≤ 1000000) (h1 : ∀ t, t < 144 → wI w (o + 1) t = nI (c t)) (h2 : ∀ t, t < 144 → wI w (o + 2) t = bi (X t)) : tp (sh_125 o w) (fun v w' => w' = w ∧ ∃ b, v = eNone b ∧ match b with
    | none => ∀ t, t < 144 → X t = false → c t = 1000000
    | some u => u < 144 ∧ X u = false ∧ c u < 1000000 ∧ ∀ t, t < 144 → X t = false → c u ≤ c t) := by
  unfold sh_125
  refine tp_it (fun j s w' => w' = w ∧ j ≤ 144 ∧ ∃ b, s = (eNone b, nI j) ∧ match b with
    | none => ∀ t, t < j → X t = false → c t = 1000000
    | some u => u < j ∧ X u = false ∧ c u < 1000000 ∧ ∀ t, t < j → X t = false → c u ≤ c t) 144 (by omega) ⟨rfl, Nat.zero_le _, none, rfl, fun t ht => by omega⟩ (fun j s w' hI => ?_)
  obtain ⟨ew, hj, b, e, hb⟩ := hI
  subst ew; subst e
  refine tp_ite (fun hlt => ?_) (fun hlt => ?_)
  · have hj8 : j < 144 := (nlt_i (by omega) (by decide)).mp (show nI j < nI 144 from hlt)
    have hcj := hc j hj8
    rw [ix_nI (by omega), h1 j hj8, h2 j hj8, nI_s]
    refine tp_gd (ib_nI hj8 (by decide)) (tp_ite (fun q1 => ?_) (fun q1 => ?_))
    · have hX : X j = false := by
        cases hh : X j with
        | false => rfl
        | true => rw [hh] at q1; exact absurd q1 (by decide)
      refine tp_gd (ib_nI hj8 (by decide)) (tp_ite (fun q2 => ?_) (fun q2 => ?_))
      · have hcf : c j < 1000000 := (nlt_i (by omega) (by decide)).mp (show nI (c j) < nI 1000000 from q2)
        cases b with
        | none =>
          refine tp_if rfl (tp_lt (tp_on ⟨hj8, rfl, by omega, some j, rfl, by omega, hX, hcf, fun t ht hXt => ?_⟩))
          by_cases q : t = j
          · subst q; exact Nat.le_refl _
          · have := hb t (by omega) hXt
            omega
        | some u =>
          obtain ⟨b1, b2, b3, b4⟩ := hb
          have e1 : ¬ eNone (some u) = -1 := by
            show ¬ nI u = -1
            rw [i_eq, i_nI (by omega)]
            show ¬ (u : Int) = -1
            omega
          refine tp_ifn e1 ?_
          rw [show eNone (some u) = nI u from rfl, ix_nI (by omega), h1 u (by omega)]
          refine tp_gd (ib_nI hj8 (by decide)) (tp_gd (ib_nI (by omega) (by decide)) (tp_ite (fun q3 => ?_) (fun q3 => ?_)))
          · have q3' : c j < c u := (nlt_i (by omega) (by omega)).mp q3
            refine tp_lt (tp_on ⟨hj8, rfl, by omega, some j, rfl, by omega, hX, hcf, fun t ht hXt => ?_⟩)
            by_cases q : t = j
            · subst q; exact Nat.le_refl _
            · have := b4 t (by omega) hXt
              omega
          · have q3' : ¬ c j < c u := fun z => q3 (nlt z (by omega))
            refine tp_lt (tp_on ⟨hj8, rfl, by omega, some u, rfl, by omega, b2, b3, fun t ht hXt => ?_⟩)
            by_cases q : t = j
            · subst q; omega
            · exact b4 t (by omega) hXt
      · have hcf : ¬ c j < 1000000 := fun z => q2 (nlt z (by decide) : nI (c j) < nI 1000000)
        refine tp_lt (tp_on ⟨hj8, rfl, by omega, b, rfl, ?_⟩)
        cases b with
        | none =>
          intro t ht hXt
          by_cases q : t = j
          · subst q; omega
          · exact hb t (by omega) hXt
        | some u =>
          obtain ⟨b1, b2, b3, b4⟩ := hb
          refine ⟨by omega, b2, b3, fun t ht hXt => ?_⟩
          by_cases q : t = j
          · subst q; omega
          · exact b4 t (by omega) hXt
    · have hX : X j = true := by
        cases hh : X j with
        | true => rfl
        | false => rw [hh] at q1; exact absurd rfl q1
      refine tp_lt (tp_on ⟨hj8, rfl, by omega, b, rfl, ?_⟩)
      cases b with
      | none =>
        intro t ht hXt
        by_cases q : t = j
        · subst q; rw [hX] at hXt; cases hXt
        · exact hb t (by omega) hXt
      | some u =>
        obtain ⟨b1, b2, b3, b4⟩ := hb
        refine ⟨by omega, b2, b3, fun t ht hXt => ?_⟩
        by_cases q : t = j
        · subst q; rw [hX] at hXt; cases hXt
        · exact b4 t (by omega) hXt
  · have hj8 : j = 144 := by
      by_cases q : j < 144
      · exact absurd (nlt q (by decide) : nI j < nI 144) hlt
      · omega
    subst hj8
    exact tp_out ⟨rfl, b, rfl, hb⟩
/-- what one TUFT settled does -/
def djE (S : Nat → Int32) (p u k : Nat) (c c' : Nat → Nat) : Prop := (∀ v, v < 144 → c' v ≤ c v) ∧ (∀ v, v < 144 → c' v = c v ∨ Ed S u v ∧ c' v = c u + 1 + 1000 * mkN S p v) ∧ ∀ v d, d < k → beN S u d = some v → frT S v → c' v ≤ c u + 1 + 1000 * mkN S p v
theorem x_settleAt (hF : WF S) (hR : HR S w h) (hr : RR S w r) (hp : p < ix (S 2)) {u : Nat} (hu : onR S u) {c : Nat → Nat} {X : Nat → Bool} (hc : ∀ t, t < 144 → c t ≤ 1000000) (h1 : ∀ t, t < 144 → wI w (o + 1) t = nI (c t)) (h2 : ∀ t, t < 144 → wI w (o + 2) t = bi (X t)) (hh : h + 9 < o) (hro : r + 7 < o) : tp (sh_126 o h r (nI u) (S (13 + p)) w) (fun _ w' => ∃ c', djE S p u 4 c c' ∧ (∀ t, t < 144 → wI w' (o + 1) t = nI (c' t)) ∧ (∀ t, t < 144 → wI w' (o + 2) t = bi (upB X u true t)) ∧ Kp (fun q => q = o + 1 ∨ q = o + 2) w w') := by
  have hu8 := hu.lt hF
  unfold sh_126
  refine tp_if (n0le (by omega)) (tp_ifn (show ¬ (144 : Int32) ≤ nI u from nnle (a := 144) hu8 (by decide)) ?_)
  rw [ix_nI (by omega)]
  refine tp_gd (ib_nI hu8 (by decide)) (tp_stI ?_)
  refine tp_it (fun k s w' => s = nI k ∧ k ≤ 4 ∧ ∃ c', djE S p u k c c' ∧ (∀ t, t < 144 → wI w' (o + 1) t = nI (c' t)) ∧ (∀ t, t < 144 → wI w' (o + 2) t = bi (upB X u true t)) ∧ Kp (fun q => q = o + 1 ∨ q = o + 2) w w') 4 (by omega) ⟨rfl, Nat.zero_le _, c, ⟨fun v _ => Nat.le_refl _, fun v _ => Or.inl rfl, fun v d hd => by omega⟩, fun t ht => by rw [wI_row (by omega)]; exact h1 t ht, fun t ht => ?_, kp0 (Or.inr rfl)⟩ (fun k s w' hI => ?_)
  · rw [wI_up]
    unfold up upB
    by_cases q : t = u
    · rw [if_pos q, if_pos q]; rfl
    · rw [if_neg q, if_neg q]; exact h2 t ht
  obtain ⟨e, hk, c', ⟨j1, j2, j3⟩, g1, g2, gK⟩ := hI
  subst e
  refine tp_ite (fun hlt => ?_) (fun hlt => ?_)
  · have hk4 : k < 4 := (nlt_i (by omega) (by decide)).mp (show nI k < nI 4 from hlt)
    have hR' : HR S w' h := hR.kp gK (fun q a b => by omega)
    have hr' : RR S w' r := hr.kp gK (fun q a b => by omega)
    refine tp_ce (x_stepFrom hF hR' hu hk4) ?_
    rw [nI_s]
    have skip : (∀ v, beN S u k = some v → frT S v → False) → tp (lt (nI (k + 1) : Int32) (fun v5_21 => some ((.inl v5_21 : Int32 ⊕ Unit), w'))) (lpQ (fun s' w'' => k < 4 ∧ s' = nI (k + 1) ∧ k + 1 ≤ 4 ∧ ∃ c', djE S p u (k + 1) c c' ∧ (∀ t, t < 144 → wI w'' (o + 1) t = nI (c' t)) ∧ (∀ t, t < 144 → wI w'' (o + 2) t = bi (upB X u true t)) ∧ Kp (fun q => q = o + 1 ∨ q = o + 2) w w'') (fun _ w'' => ∃ c', djE S p u 4 c c' ∧ (∀ t, t < 144 → wI w'' (o + 1) t = nI (c' t)) ∧ (∀ t, t < 144 → wI w'' (o + 2) t = bi (upB X u true t)) ∧ Kp (fun q => q = o + 1 ∨ q = o + 2) w w'')) := by
      intro hno
      refine tp_lt (tp_on ⟨hk4, rfl, by omega, c', ⟨j1, j2, fun v d hd e ho => ?_⟩, g1, g2, gK⟩)
      by_cases q : d = k
      · subst q; exact absurd (hno v e ho) id
      · exact j3 v d (by omega) e ho
    cases hb : beN S u k with
    | none => exact tp_ifn (by decide) (skip (fun v e => by rw [hb] at e; cases e))
    | some v =>
      obtain ⟨hv, hv8⟩ := beN_on hF hu hb
      rw [show eNone (some v) = nI v from rfl]
      refine tp_if (n0le (by omega)) (tp_if (show nI v < (144 : Int32) from nlt (b := 144) hv8 (by decide)) (tp_ce (x_isFree hF hR' _) ?_))
      refine tp_ite (fun hf => ?_) (fun hf => ?_)
      · obtain ⟨v', ev, -, hfr⟩ := frB_t hF hf
        have hv' := hfr.1.lt hF
        have ev2 : v = v' := (nI_eq (by omega) (by omega)).mp ev
        subst ev2
        have hcv := j1 v hv8
        have hcv2 := hc v hv8
        have hcu := hc u hu8
        have hm := mkN_le S p v
        have cu : c' u = c u := by
          have := j1 u hu8
          rcases j2 u hu8 with q | ⟨-, q⟩ <;> omega
        rw [ix_nI (by omega), g1 v hv8, g1 u hu8, cu]
        refine tp_gd (ib_nI hv8 (by decide)) (tp_gd (ib_nI hu8 (by decide)) (tp_ce (x_markOf hF hr' hv8 hp) ?_))
        rw [nI_s, nI_p]
        refine tp_ce (x_min _ (by omega) (by omega)) (tp_gd (ib_nI hv8 (by decide)) (tp_stI (tp_lt (tp_on ⟨hk4, rfl, by omega, upN c' v (min (c' v) (c u + 1 + 1000 * mkN S p v)), ⟨fun a ha => ?_, fun a ha => ?_, fun a d hd e ho => ?_⟩, fun t ht => ?_, fun t ht => by rw [wI_row (by omega)]; exact g2 t ht, gK.sI (by omega) _ _⟩))))
        · by_cases q : a = v
          · subst q; rw [upN_s]; omega
          · rw [upN_o _ _ q]; exact j1 a ha
        · by_cases q : a = v
          · subst q
            rw [upN_s]
            by_cases z : c' a ≤ c u + 1 + 1000 * mkN S p a
            · rw [Nat.min_eq_left z]; exact j2 a ha
            · rw [Nat.min_eq_right (by omega)]; exact Or.inr ⟨⟨k, hk4, hb, hfr⟩, rfl⟩
          · rw [upN_o _ _ q]; exact j2 a ha
        · by_cases q : a = v
          · subst q; rw [upN_s]; omega
          · rw [upN_o _ _ q]
            by_cases z : d = k
            · subst z
              rw [hb] at e
              exact absurd (Option.some.inj e).symm q
            · exact j3 a d (by omega) e ho
        · rw [wI_up]
          unfold up upN
          by_cases q : t = v
          · rw [if_pos q, if_pos q]
          · rw [if_neg q, if_neg q]; exact g1 t ht
      · exact skip (fun a e ho => by rw [hb] at e; cases e; exact hf (frB_of hF ho))
  · have hk4 : k = 4 := by
      by_cases q : k < 4
      · exact absurd (nlt q (by decide) : nI k < nI 4) hlt
      · omega
    subst hk4
    exact tp_out ⟨c', ⟨j1, j2, j3⟩, g1, g2, gK⟩
theorem cntN_up {X : Nat → Bool} {u n : Nat} (hu : u < n) (hX : X u = false) : cntN (upB X u true) n = cntN X n + 1 := by
  induction n with
  | zero => omega
  | succ n ih =>
    unfold cntN
    by_cases q : u = n
    · subst q
      rw [upB_s, if_pos rfl, hX, if_neg (by decide), cntN_c (p := upB X u true) (q := X) (fun i hi => upB_o X true (by omega))]
    · rw [upB_o X true (fun z => q z.symm), ih (by omega)]
      omega
theorem cntN_all {X : Nat → Bool} {n : Nat} (h : cntN X n = n) : ∀ i, i < n → X i = true := by
  induction n with
  | zero => intro i hi; omega
  | succ n ih =>
    unfold cntN at h
    have := cntN_le X n
    intro i hi
    by_cases q : X n = true
    · rw [if_pos q] at h
      by_cases z : i = n
      · subst z; exact q
      · exact ih (by omega) i (by omega)
    · rw [if_neg q] at h
      omega
/-- how the crossing's answer shows -/
def crOut (r : Option (Nat × Nat)) (v : Bool) (a b : Int32) : Prop := match r with
  | none => v = false
  | some q => v = true ∧ a = nI q.1 ∧ b = nI q.2
theorem x_cross_no (hF : WF S) (hR : HR S w h) {x y z : Int32} (hn : ¬ (isK S 2 x = true ∧ frB S y = true ∧ frB S z = true)) : sh_122 o h r x y z w = some (false, w) := by
  unfold sh_122
  rw [cl_e (x_isPerson hF hR x)]
  by_cases h1 : isK S 2 x = true
  · rw [if_pos h1, cl_e (x_isFree hF hR y)]
    by_cases h2 : frB S y = true
    · rw [if_pos h2, cl_e (x_isFree hF hR z), if_neg (fun q => hn ⟨h1, h2, q⟩)]
    · rw [if_neg h2]
  · rw [if_neg h1]
theorem x_cross (hF : WF S) (hR : HR S w h) (hr : RR S w r) (hp : p < ix (S 2)) {t : Nat} (hf : frT S f) (ht : frT S t) (hh : h + 9 < o) (hro : r + 7 < o) : tp (sh_122 o h r (nI p) (nI f) (nI t) w) (fun v w' => ∃ q, crSpec S p f t q ∧ crOut q v (wI w' o 0) (wI w' o 1) ∧ Kp (fun q => o ≤ q ∧ q ≤ o + 2) w w') := by
  have hf8 := hf.1.lt hF
  have ht8 := ht.1.lt hF
  have hp6 := hF.p6 hp
  unfold sh_122
  refine tp_ce (x_isPerson hF hR _) (tp_if (isK_of hF hp) (tp_ce (x_isFree hF hR _) (tp_if (frB_of hF hf) (tp_ce (x_isFree hF hR _) (tp_if (frB_of hF ht) ?_)))))
  refine tp_it (fun j s w' => s = nI j ∧ j ≤ 144 ∧ (∀ t, t < j → wI w' (o + 1) t = nI 1000000 ∧ wI w' (o + 2) t = 0) ∧ Kp (fun q => o ≤ q ∧ q ≤ o + 2) w w') 144 (by omega) ⟨rfl, Nat.zero_le _, fun t ht => by omega, Kp.refl⟩ (fun j s w' hI => ?_)
  obtain ⟨e, hj, g1, gK⟩ := hI
  subst e
  refine tp_ite (fun hlt => ?_) (fun hlt => ?_)
  · have hj8 : j < 144 := (nlt_i (by omega) (by decide)).mp (show nI j < nI 144 from hlt)
    rw [ix_nI (by omega), nI_s]
    refine tp_gd (ib_nI hj8 (by decide)) (tp_stI (tp_gd (ib_nI hj8 (by decide)) (tp_stI (tp_lt (tp_on ⟨hj8, rfl, by omega, fun t ht => ?_, (gK.sI (by omega) _ _).sI (by omega) _ _⟩)))))
    rw [wI_row (show ¬ o + 1 = o + 2 by omega), wI_up, wI_up, wI_row (show ¬ o + 2 = o + 1 by omega)]
    unfold up
    by_cases q : t = j
    · rw [if_pos q, if_pos q]; exact ⟨rfl, rfl⟩
    · rw [if_neg q, if_neg q]; exact g1 t (by omega)
  · have hj8 : j = 144 := by
      by_cases q : j < 144
      · exact absurd (nlt q (by decide) : nI j < nI 144) hlt
      · omega
    subst hj8
    have hR1 : HR S w' h := hR.kp gK (fun q a b => by omega)
    have hr1 : RR S w' r := hr.kp gK (fun q a b => by omega)
    refine tp_ce (x_soleOf hF hR1 _) ?_
    rw [at_in hF hp]
    refine tp_jn (tp_if (n0le (by omega)) (tp_if (show nI f < (144 : Int32) from nlt (b := 144) hf8 (by decide)) (tp_ce (x_markOf hF hr1 hf8 hp) ?_)))
    rw [ix_nI (by omega)]
    refine tp_gd (ib_nI hf8 (by decide)) (tp_stI ?_)
    have hmf := mkN_le S p f
    refine tp_it (fun i s w'' => s = nI i ∧ i ≤ 144 ∧ ∃ c X, DJ S p f i c X ∧ cntN X 144 = i ∧ (∀ t, t < 144 → wI w'' (o + 1) t = nI (c t)) ∧ (∀ t, t < 144 → wI w'' (o + 2) t = bi (X t)) ∧ Kp (fun q => o ≤ q ∧ q ≤ o + 2) w w'') 144 (by omega) ⟨rfl, Nat.zero_le _, upN (fun _ => 1000000) f (1000 * mkN S p f), fun _ => false, ⟨fun t ht => ?_, fun t ht hc => ?_, fun u v _ hX => (by cases hX), fun u v _ _ hX => (by cases hX), fun u _ hX => (by cases hX), by rw [upN_s]; exact Nat.le_refl _⟩, ?_, fun t ht => ?_, fun t ht => ?_, gK.sI (by omega) _ _⟩ (fun i s w'' hI => ?_)
    · by_cases q : t = f
      · subst q; rw [upN_s]; omega
      · rw [upN_o _ _ q]; exact Nat.le_refl _
    · by_cases q : t = f
      · subst q
        exact ⟨hf, 0, mkN S p t, Nat.le_refl _, hmf, by rw [upN_s]; rfl, rfl, rfl⟩
      · rw [upN_o _ _ q] at hc; omega
    · have : ∀ n, cntN (fun _ => false) n = 0 := fun n => by
        induction n with
        | zero => rfl
        | succ n ih => unfold cntN; rw [ih]; rfl
      exact this 144
    · rw [wI_up]
      unfold up upN
      by_cases q : t = f
      · rw [if_pos q, if_pos q]
      · rw [if_neg q, if_neg q]; exact (g1 t ht).1
    · rw [wI_row (by omega)]; exact (g1 t ht).2
    obtain ⟨e, hi, c, X, hD, hcn, k1, k2, kK⟩ := hI
    subst e
    have hD1 := hD.1
    have fin : (∀ u, u < 144 → X u = false → c u < 1000000 → c t ≤ c u ∧ c t < 1000000) → tp (jn (fun (t27 : Int32) (w28 : Wd) => stI w28 o 0 (t27 / 1000) (fun w29 => stI w29 o 1 (zrem t27 1000) (fun w30 => lt (if t27 < 1000000 then true else false : Bool) (fun z31 => some ((.inr (.inr (z31)) : Int32 ⊕ (Int32 ⊕ Bool)), w30))))) (fun j26 => jn (fun (s38 : Unit) (w35 : Wd) => j26 1000000 w35) (fun j34 => if 0 ≤ nI t then (if nI t < 144 then (gd (ib (nI t) 144) (j26 (wI w'' (o + 1) (ix (nI t))) w'')) else (j34 () w'')) else (j34 () w'')))) (lpQ (fun s' w_1 => i < 144 ∧ s' = nI (i + 1) ∧ i + 1 ≤ 144 ∧ ∃ c X, DJ S p f (i + 1) c X ∧ cntN X 144 = i + 1 ∧ (∀ t, t < 144 → wI w_1 (o + 1) t = nI (c t)) ∧ (∀ t, t < 144 → wI w_1 (o + 2) t = bi (X t)) ∧ Kp (fun q => o ≤ q ∧ q ≤ o + 2) w w_1) (lpQ (fun s' w' => 144 < 144 ∧ s' = nI (144 + 1) ∧ 144 + 1 ≤ 144 ∧ (∀ t, t < 144 + 1 → wI w' (o + 1) t = nI 1000000 ∧ wI w' (o + 2) t = 0) ∧ Kp (fun q => o ≤ q ∧ q ≤ o + 2) w w') (fun v w' => ∃ q, crSpec S p f t q ∧ crOut q v (wI w' o 0) (wI w' o 1) ∧ Kp (fun q => o ≤ q ∧ q ≤ o + 2) w w'))) := by
      intro hX
      have hS := hD.fin hF hi hf8 ht8 hX
      have hct := hD1 t ht8
      refine tp_jn (tp_jn (tp_if (n0le (by omega)) (tp_if (show nI t < (144 : Int32) from nlt (b := 144) ht8 (by decide)) (tp_gd (ib_nI ht8 (by decide)) ?_))))
      rw [ix_nI (by omega), k1 t ht8]
      refine tp_stI (tp_stI (tp_lt (tp_oout ⟨_, hS, ?_, (kK.sI (by omega) _ _).sI (by omega) _ _⟩)))
      rw [wI_other (show ¬ 0 = 1 by decide), wI_same, wI_same, show (1000 : Int32) = nI 1000 from rfl, nI_div (by omega) (by decide) (by decide), nI_rem (by omega) (by decide) (by decide)]
      by_cases hc : c t < 1000000
      · rw [if_pos hc, if_pos (show nI (c t) < (1000000 : Int32) from nlt (b := 1000000) hc (by decide))]
        exact ⟨rfl, rfl, rfl⟩
      · rw [if_neg hc, if_neg (show ¬ nI (c t) < (1000000 : Int32) from nnlt (b := 1000000) (by omega) (by omega))]
        exact rfl
    refine tp_jn (tp_ite (fun hlt => ?_) (fun hlt => ?_))
    · have hi8 : i < 144 := (nlt_i (by omega) (by decide)).mp (show nI i < nI 144 from hlt)
      refine tp_cl (x_nearest hD1 k1 k2) (fun v w2 h2 => ?_)
      obtain ⟨ew, b, ev, hb⟩ := h2
      subst ew; subst ev
      cases b with
      | none =>
        refine tp_if rfl (fin (fun u hu hXu hcu => ?_))
        have := hb u hu hXu
        omega
      | some u =>
        obtain ⟨b1, b2, b3, b4⟩ := hb
        refine tp_ifn (show ¬ nI u = -1 by rw [i_eq, i_nI (by omega)]; show ¬ (u : Int) = -1; omega) (tp_ite (fun q => ?_) (fun q => ?_))
        · have q' : u = t := (nI_eq (by omega) (by omega)).mp q
          subst q'
          exact fin (fun v hv hXv _ => ⟨b4 v hv hXv, b3⟩)
        · have hfu := (hD.2.1 u b1 b3).1
          refine tp_cl (x_settleAt hF (hR.kp kK (fun q a b => by omega)) (hr.kp kK (fun q a b => by omega)) hp hfu.1 hD1 k1 k2 hh hro) (fun _ w3 h3 => ?_)
          obtain ⟨c', ⟨j1, j2, j3⟩, l1, l2, lK⟩ := h3
          rw [nI_s]
          refine tp_lt (tp_on ⟨hi8, rfl, by omega, c', upB X u true, hD.step hF hf8 b1 b2 b3 b4 j1 j2 (fun v he => by obtain ⟨d, hd, e, ho⟩ := he; exact j3 v d hd e ho), by rw [cntN_up b1 b2, hcn], l1, l2, kK.trans (lK.mono (fun q hq => by omega))⟩)
    · have hi8 : i = 144 := by
        by_cases q : i < 144
        · exact absurd (nlt q (by decide) : nI i < nI 144) hlt
        · omega
      subst hi8
      refine fin (fun u hu hXu _ => ?_)
      rw [cntN_all hcn u hu] at hXu
      cases hXu
end CR
