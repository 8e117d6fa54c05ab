/-! ways on that may turn laid ones off; breadth first; one more way laid -/
/-- from a place (2 t in, 2 t + 1 out) to another one -/
def rsd (S : Nat → Int32) (op : Nat → Prop) (s e : Nat) (f : Nat → Nat → Prop) (c : Nat → Prop) (x y : Nat) : Prop :=
  (∃ u v, x = 2 * u + 1 ∧ y = 2 * v ∧ u < 144 ∧ v < 144 ∧ Adj S u v ∧ op u ∧ op v ∧ ¬ v = s ∧ ¬ u = e ∧ ¬ f u v) ∨
  (∃ u v, x = 2 * v ∧ y = 2 * u + 1 ∧ u < 144 ∧ v < 144 ∧ f u v) ∨
  (∃ t, x = 2 * t ∧ y = 2 * t + 1 ∧ t < 144 ∧ ¬ t = s ∧ ¬ t = e ∧ op t ∧ ¬ c t) ∨
  (∃ t, x = 2 * t + 1 ∧ y = 2 * t ∧ t < 144 ∧ ¬ t = s ∧ ¬ t = e ∧ c t)
/-- .. the class looks from the start's out at its in too -/
def rsx (S : Nat → Int32) (op : Nat → Prop) (s e : Nat) (f : Nat → Nat → Prop) (c : Nat → Prop) (x y : Nat) : Prop := rsd S op s e f c x y ∨ (x = 2 * s + 1 ∧ y = 2 * s)
/-- places come to: came tells from where, que in which order, m how many -/
def BQ (r : Nat → Nat → Prop) (nd : Nat → Prop) (st : Nat) (came : Nat → Option Nat) (que : Nat → Nat) (m : Nat) : Prop :=
  cntN (fun x => (came x).isSome) 288 = m ∧ (∀ j, j < m → que j < 288 ∧ (came (que j)).isSome = true ∧ nd (que j)) ∧ (∀ i j, i < m → j < m → que i = que j → i = j) ∧
  (∀ x, x < 288 → (came x).isSome = true → ∃ j, j < m ∧ que j = x) ∧ (0 < m ∧ que 0 = st ∧ came st = some st) ∧ ∀ j, 0 < j → j < m → ∃ i, i < j ∧ came (que j) = some (que i) ∧ r (que i) (que j)
def upO {α : Type} (f : Nat → α) (k : Nat) (v : α) : Nat → α := fun i => if i = k then v else f i
theorem upO_s {α : Type} (f : Nat → α) (k : Nat) (v : α) : upO f k v k = v := if_pos rfl
theorem upO_o {α : Type} (f : Nat → α) {i k : Nat} (v : α) (h : ¬ i = k) : upO f k v i = f i := if_neg h
theorem BQ.lt {r : Nat → Nat → Prop} {nd : Nat → Prop} {st : Nat} {came : Nat → Option Nat} {que : Nat → Nat} {m : Nat} (h : BQ r nd st came que m) {y : Nat} (hy : y < 288) (hc : came y = none) : m < 288 := by
  have e := cntN_up (X := fun x => (came x).isSome) hy (by show (came y).isSome = false; rw [hc]; rfl)
  have := cntN_le (upB (fun x => (came x).isSome) y true) 288
  have := h.1
  omega
theorem BQ.add {r : Nat → Nat → Prop} {nd : Nat → Prop} {st : Nat} {came : Nat → Option Nat} {que : Nat → Nat} {m : Nat} (h : BQ r nd st came que m) {i y : Nat} (hi : i < m) (hy : y < 288) (hc : came y = none) (hr : r (que i) y) (hn : nd y) : BQ r nd st (upO came y (some (que i))) (upO que m y) (m + 1) := by
  obtain ⟨q1, q2, q3, q4, ⟨q5, q6, q7⟩, q8⟩ := h
  have hne : ∀ j, j < m → ¬ que j = y := fun j hj z => by
    have := (q2 j hj).2.1
    rw [z, hc] at this
    cases this
  refine ⟨?_, fun j hj => ?_, fun a b ha hb hab => ?_, fun x hx hv => ?_, ⟨by omega, ?_, ?_⟩, fun j h0 hj => ?_⟩
  · have e := cntN_up (X := fun x => (came x).isSome) hy (by show (came y).isSome = false; rw [hc]; rfl)
    rw [q1] at e
    rw [← e]
    refine cntN_c (fun x _ => ?_)
    unfold upO upB
    by_cases z : x = y
    · rw [if_pos z, if_pos z]; rfl
    · rw [if_neg z, if_neg z]
  · by_cases z : j = m
    · subst z
      rw [upO_s, upO_s]
      exact ⟨hy, rfl, hn⟩
    · have hj2 : j < m := by omega
      rw [upO_o que y z, upO_o came _ (hne j hj2)]
      exact q2 j hj2
  · by_cases z : a = m
    · by_cases z2 : b = m
      · omega
      · subst z
        rw [upO_s, upO_o que y z2] at hab
        exact absurd hab.symm (hne b (by omega))
    · by_cases z2 : b = m
      · subst z2
        rw [upO_s, upO_o que y z] at hab
        exact absurd hab (hne a (by omega))
      · rw [upO_o que y z, upO_o que y z2] at hab
        exact q3 a b (by omega) (by omega) hab
  · by_cases z : x = y
    · subst z
      exact ⟨m, by omega, upO_s _ _ _⟩
    · rw [upO_o came _ z] at hv
      obtain ⟨j, hj, e⟩ := q4 x hx hv
      exact ⟨j, by omega, by rw [upO_o que y (by omega)]; exact e⟩
  · rw [upO_o que y (by omega)]; exact q6
  · rw [upO_o came _ (fun z => by rw [← z, q7] at hc; cases hc)]; exact q7
  · by_cases z : j = m
    · subst z
      refine ⟨i, hi, ?_⟩
      rw [upO_s, upO_s, upO_o que y (by omega)]
      exact ⟨rfl, hr⟩
    · have hj2 : j < m := by omega
      obtain ⟨k, hk, e, hr2⟩ := q8 j h0 hj2
      refine ⟨k, hk, ?_⟩
      rw [upO_o que y z, upO_o que y (by omega), upO_o came _ (hne j hj2)]
      exact ⟨e, hr2⟩
/-- one place more, or none: what stays -/
def BG (came came' : Nat → Option Nat) (que que' : Nat → Nat) (m m' : Nat) : Prop := m ≤ m' ∧ (∀ j, j < m → que' j = que j) ∧ ∀ x, (came x).isSome = true → (came' x).isSome = true
theorem BG.refl {came : Nat → Option Nat} {que : Nat → Nat} {m : Nat} : BG came came que que m m := ⟨Nat.le_refl _, fun _ _ => rfl, fun _ h => h⟩
theorem BG.trans {c1 c2 c3 : Nat → Option Nat} {q1 q2 q3 : Nat → Nat} {m1 m2 m3 : Nat} (h : BG c1 c2 q1 q2 m1 m2) (g : BG c2 c3 q2 q3 m2 m3) : BG c1 c3 q1 q3 m1 m3 :=
  ⟨Nat.le_trans h.1 g.1, fun j hj => by rw [g.2.1 j (by have := h.1; omega)]; exact h.2.1 j hj, fun x hx => g.2.2 x (h.2.2 x hx)⟩
section WY
variable {S : Nat → Int32} {op : Nat → Prop} {s e : Nat} {f : Nat → Nat → Prop} {c : Nat → Prop} {n : Int}
/-- all that is come to can't be left -/
theorem clsd_of (r : Nat → Nat → Prop) (hr : ∀ x y, rsd S op s e f c x y → r x y) (R : Nat → Prop) (h : ∀ x y, x < 288 → y < 288 → R x → r x y → R y) : clsd S op s e f c R := by
  refine ⟨fun u v hu hv h1 h2 h3 h4 h5 h6 h7 => h _ _ (by omega) (by omega) h6 (hr _ _ (Or.inl ⟨u, v, rfl, rfl, hu, hv, h1, h2, h3, h4, h5, h7⟩)), fun u v hu hv h1 h2 => h _ _ (by omega) (by omega) h2 (hr _ _ (Or.inr (Or.inl ⟨u, v, rfl, rfl, hu, hv, h1⟩))), fun t ht h1 h2 h3 h4 h5 => h _ _ (by omega) (by omega) h4 (hr _ _ (Or.inr (Or.inr (Or.inl ⟨t, rfl, rfl, ht, h1, h2, h3, h5⟩)))), fun t ht h1 h2 h3 h4 => h _ _ (by omega) (by omega) h4 (hr _ _ (Or.inr (Or.inr (Or.inr ⟨t, rfl, rfl, ht, h1, h2, h3⟩))))⟩
/-- no more than four ways on -/
theorem FLW.le4 (h : FLW S op s e f c n) : n ≤ 4 := by
  have h1 : n ≤ zs 144 (fun v => zs 4 (fun d => iv (beN S s d = some v))) := by
    rw [← h.2.2.1]
    refine zs_le (fun v _ => ?_)
    rcases Classical.em (f s v) with q | q
    · obtain ⟨d, hd, ed⟩ := (h.1 s v q).1
      have := zs_ge (n := 4) (k := d) (f := fun d => iv (beN S s d = some v)) hd (fun i _ => by rcases iv_01 (beN S s i = some v) with z | z <;> rw [z] <;> decide)
      rw [iv_t ed] at this
      rw [iv_t q]
      exact this
    · rw [iv_f q]
      exact zs_nn (fun i _ => by rcases iv_01 (beN S s i = some v) with z | z <;> rw [z] <;> decide)
  rw [zs_swap] at h1
  have h2 : ∀ d, d < 4 → zs 144 (fun v => iv (beN S s d = some v)) ≤ 1 := fun d _ => by
    cases hb : beN S s d with
    | none => rw [zs_0 (fun v _ => iv_f (fun z => by cases z))]; decide
    | some a =>
      rcases Nat.lt_or_ge a 144 with q | q
      · rw [zs_one q (fun v _ hv => iv_f (fun z => hv (Option.some.inj z).symm))]
        rcases iv_01 (some a = some a) with z | z <;> rw [z] <;> decide
      · rw [zs_0 (fun v hv => iv_f (fun z => by have := Option.some.inj z; omega))]; decide
  have h3 := zs_le h2
  have h4 : zs 4 (fun _ => (1 : Int)) = 4 := rfl
  rw [h4] at h3
  exact Int.le_trans h1 h3
/-! one way more: place by place from the goal back; at p one more leaves than comes -/
def DEF (S : Nat → Int32) (op : Nat → Prop) (s e : Nat) (n : Int) (p : Nat) (f : Nat → Nat → Prop) (c : Nat → Prop) : Prop :=
  (∀ u v, f u v → Adj S u v ∧ op u ∧ op v ∧ ¬ v = s ∧ ¬ u = e) ∧
  (∀ t, t < 144 → ¬ t = s → ¬ t = e → zs 144 (fun u => iv (f u t)) + iv (p = 2 * t) = iv (c t) ∧ zs 144 (fun v => iv (f t v)) = iv (c t) + iv (p = 2 * t + 1)) ∧
  zs 144 (fun v => iv (f s v)) = n + iv (p = 2 * s + 1) ∧ zs 144 (fun u => iv (f u e)) + iv (p = 2 * e) = n + 1
theorem DEF.start (h : FLW S op s e f c n) : DEF S op s e n (2 * e) f c := by
  obtain ⟨h1, h2, h3, h4⟩ := h
  refine ⟨h1, fun t ht a b => ?_, ?_, ?_⟩
  · rw [iv_f (show ¬ 2 * e = 2 * t by omega), iv_f (show ¬ 2 * e = 2 * t + 1 by omega), Int.add_zero, Int.add_zero]
    exact h2 t ht a b
  · rw [iv_f (show ¬ 2 * e = 2 * s + 1 by omega), Int.add_zero]; exact h3
  · rw [iv_t rfl, h4]
theorem DEF.fin (h : DEF S op s e n (2 * s + 1) f c) : FLW S op s e f c (n + 1) := by
  obtain ⟨h1, h2, h3, h4⟩ := h
  refine ⟨h1, fun t ht a b => ?_, ?_, ?_⟩
  · have := h2 t ht a b
    rw [iv_f (show ¬ 2 * s + 1 = 2 * t by omega), iv_f (show ¬ 2 * s + 1 = 2 * t + 1 by omega), Int.add_zero, Int.add_zero] at this
    exact this
  · rw [iv_t rfl] at h3; exact h3
  · rw [iv_f (show ¬ 2 * s + 1 = 2 * e by omega), Int.add_zero] at h4; exact h4
def upF (f : Nat → Nat → Prop) (a b : Nat) (p : Prop) : Nat → Nat → Prop := fun u v => (u = a ∧ v = b ∧ p) ∨ (¬ (u = a ∧ v = b) ∧ f u v)
def upC (c : Nat → Prop) (a : Nat) (p : Prop) : Nat → Prop := fun t => (t = a ∧ p) ∨ (¬ t = a ∧ c t)
theorem upF_s {a b : Nat} {p : Prop} : upF f a b p a b ↔ p := ⟨fun h => by rcases h with h | h; exact h.2.2; exact absurd ⟨rfl, rfl⟩ h.1, fun h => Or.inl ⟨rfl, rfl, h⟩⟩
theorem upF_o {a b u v : Nat} {p : Prop} (h : ¬ (u = a ∧ v = b)) : upF f a b p u v ↔ f u v := ⟨fun z => by rcases z with z | z; exact absurd ⟨z.1, z.2.1⟩ h; exact z.2, fun z => Or.inr ⟨h, z⟩⟩
theorem upC_s {a : Nat} {p : Prop} : upC c a p a ↔ p := ⟨fun h => by rcases h with h | h; exact h.2; exact absurd rfl h.1, fun h => Or.inl ⟨rfl, h⟩⟩
theorem upC_o {a t : Nat} {p : Prop} (h : ¬ t = a) : upC c a p t ↔ c t := ⟨fun z => by rcases z with z | z; exact absurd z.1 h; exact z.2, fun z => Or.inr ⟨h, z⟩⟩
theorem in_up {a b : Nat} {p : Prop} (ha : a < 144) (t : Nat) : zs 144 (fun u => iv (upF f a b p u t)) = zs 144 (fun u => iv (f u t)) + iv (t = b) * (iv p - iv (f a b)) := by
  by_cases h : t = b
  · subst h
    rw [iv_t rfl, Int.one_mul, zs_up (f := fun u => iv (f u t)) ha (fun u _ hu => iv_c (upF_o (fun z => hu z.1))), iv_c upF_s]
  · rw [iv_f h, Int.zero_mul, Int.add_zero]
    exact zs_c (fun u _ => iv_c (upF_o (fun z => h z.2)))
theorem out_up {a b : Nat} {p : Prop} (hb : b < 144) (t : Nat) : zs 144 (fun v => iv (upF f a b p t v)) = zs 144 (fun v => iv (f t v)) + iv (t = a) * (iv p - iv (f a b)) := by
  by_cases h : t = a
  · subst h
    rw [iv_t rfl, Int.one_mul, zs_up (f := fun v => iv (f t v)) hb (fun v _ hv => iv_c (upF_o (fun z => hv z.2))), iv_c upF_s]
  · rw [iv_f h, Int.zero_mul, Int.add_zero]
    exact zs_c (fun v _ => iv_c (upF_o (fun z => h z.1)))
/-- forward -/
theorem DEF.fwd {u v : Nat} (h : DEF S op s e n (2 * v) f c) (hu : u < 144) (hv : v < 144) (g1 : Adj S u v) (g2 : op u) (g3 : op v) (g4 : ¬ v = s) (g5 : ¬ u = e) (g6 : ¬ f u v) : DEF S op s e n (2 * u + 1) (upF f u v True) c := by
  obtain ⟨h1, h2, h3, h4⟩ := h
  refine ⟨fun a b z => ?_, fun t ht a b => ?_, ?_, ?_⟩
  · rcases z with ⟨z1, z2, -⟩ | ⟨-, z⟩
    · rw [z1, z2]; exact ⟨g1, g2, g3, g4, g5⟩
    · exact h1 a b z
  · obtain ⟨k1, k2⟩ := h2 t ht a b
    rw [in_up hu, out_up hv, iv_f g6, iv_t trivial]
    rw [iv_f (show ¬ 2 * v = 2 * t + 1 by omega)] at k2
    rw [iv_f (show ¬ 2 * u + 1 = 2 * t by omega), iv_c (show 2 * u + 1 = 2 * t + 1 ↔ t = u by omega)]
    rw [iv_c (show 2 * v = 2 * t ↔ t = v by omega)] at k1
    constructor <;> omega
  · rw [out_up hv, iv_f g6, iv_t trivial, iv_c (show 2 * u + 1 = 2 * s + 1 ↔ s = u by omega)]
    rw [iv_f (show ¬ 2 * v = 2 * s + 1 by omega)] at h3
    omega
  · rw [in_up hu, iv_f g6, iv_t trivial, iv_f (show ¬ 2 * u + 1 = 2 * e by omega)]
    rw [iv_c (show 2 * v = 2 * e ↔ e = v by omega)] at h4
    omega
/-- a laid way turned off -/
theorem DEF.bck {u v : Nat} (h : DEF S op s e n (2 * u + 1) f c) (hu : u < 144) (hv : v < 144) (hs : ¬ u = s) (g6 : f u v) : DEF S op s e n (2 * v) (upF f u v False) c := by
  obtain ⟨h1, h2, h3, h4⟩ := h
  obtain ⟨g1, g2, g3, g4, g5⟩ := h1 u v g6
  refine ⟨fun a b z => ?_, fun t ht a b => ?_, ?_, ?_⟩
  · rcases z with ⟨-, -, z⟩ | ⟨-, z⟩
    · exact absurd z id
    · exact h1 a b z
  · obtain ⟨k1, k2⟩ := h2 t ht a b
    rw [in_up hu, out_up hv, iv_t g6, iv_f (fun z : False => z)]
    rw [iv_f (show ¬ 2 * u + 1 = 2 * t by omega)] at k1
    rw [iv_f (show ¬ 2 * v = 2 * t + 1 by omega), iv_c (show 2 * v = 2 * t ↔ t = v by omega)]
    rw [iv_c (show 2 * u + 1 = 2 * t + 1 ↔ t = u by omega)] at k2
    constructor <;> omega
  · rw [out_up hv, iv_t g6, iv_f (fun z : False => z), iv_f (show ¬ 2 * v = 2 * s + 1 by omega), iv_f (show ¬ s = u by omega)]
    rw [iv_f (show ¬ 2 * u + 1 = 2 * s + 1 by omega)] at h3
    omega
  · rw [in_up hu, iv_t g6, iv_f (fun z : False => z), iv_c (show 2 * v = 2 * e ↔ e = v by omega)]
    rw [iv_f (show ¬ 2 * u + 1 = 2 * e by omega)] at h4
    omega
/-- over a TUFT -/
theorem DEF.ovr {a : Nat} (h : DEF S op s e n (2 * a + 1) f c) (hs : ¬ a = s) (he : ¬ a = e) (g : ¬ c a) : DEF S op s e n (2 * a) f (upC c a True) := by
  obtain ⟨h1, h2, h3, h4⟩ := h
  refine ⟨h1, fun t ht b1 b2 => ?_, ?_, ?_⟩
  · obtain ⟨k1, k2⟩ := h2 t ht b1 b2
    by_cases q : t = a
    · subst q
      rw [iv_c upC_s, iv_t trivial, iv_t rfl, iv_f (show ¬ 2 * t = 2 * t + 1 by omega)]
      rw [iv_f g, iv_f (show ¬ 2 * t + 1 = 2 * t by omega)] at k1
      rw [iv_f g, iv_t rfl] at k2
      constructor <;> omega
    · rw [iv_c (upC_o q), iv_f (show ¬ 2 * a = 2 * t by omega), iv_f (show ¬ 2 * a = 2 * t + 1 by omega)]
      rw [iv_f (show ¬ 2 * a + 1 = 2 * t by omega)] at k1
      rw [iv_f (show ¬ 2 * a + 1 = 2 * t + 1 by omega)] at k2
      exact ⟨k1, k2⟩
  · rw [iv_f (show ¬ 2 * a = 2 * s + 1 by omega)]
    rw [iv_f (show ¬ 2 * a + 1 = 2 * s + 1 by omega)] at h3
    exact h3
  · rw [iv_f (show ¬ 2 * a = 2 * e by omega)]
    rw [iv_f (show ¬ 2 * a + 1 = 2 * e by omega)] at h4
    exact h4
theorem DEF.off {a : Nat} (h : DEF S op s e n (2 * a) f c) (hs : ¬ a = s) (he : ¬ a = e) (g : c a) : DEF S op s e n (2 * a + 1) f (upC c a False) := by
  obtain ⟨h1, h2, h3, h4⟩ := h
  refine ⟨h1, fun t ht b1 b2 => ?_, ?_, ?_⟩
  · obtain ⟨k1, k2⟩ := h2 t ht b1 b2
    by_cases q : t = a
    · subst q
      rw [iv_c upC_s, iv_f (fun z : False => z), iv_f (show ¬ 2 * t + 1 = 2 * t by omega), iv_t (show 2 * t + 1 = 2 * t + 1 from rfl)]
      rw [iv_t g, iv_t rfl] at k1
      rw [iv_t g, iv_f (show ¬ 2 * t = 2 * t + 1 by omega)] at k2
      constructor <;> omega
    · rw [iv_c (upC_o q), iv_f (show ¬ 2 * a + 1 = 2 * t by omega), iv_f (show ¬ 2 * a + 1 = 2 * t + 1 by omega)]
      rw [iv_f (show ¬ 2 * a = 2 * t by omega)] at k1
      rw [iv_f (show ¬ 2 * a = 2 * t + 1 by omega)] at k2
      exact ⟨k1, k2⟩
  · rw [iv_f (show ¬ 2 * a + 1 = 2 * s + 1 by omega)]
    rw [iv_f (show ¬ 2 * a = 2 * s + 1 by omega)] at h3
    exact h3
  · rw [iv_f (show ¬ 2 * a + 1 = 2 * e by omega)]
    rw [iv_f (show ¬ 2 * a = 2 * e by omega)] at h4
    exact h4
/-- what lies ahead of place j of the queue is as it was -/
def asW (que : Nat → Nat) (j : Nat) (f f0 : Nat → Nat → Prop) (c c0 : Nat → Prop) : Prop := ∀ i, i < j → (∀ u v, (que i = 2 * u + 1 ∨ que i = 2 * v) → (f u v ↔ f0 u v)) ∧ ∀ t, (que i = 2 * t ∨ que i = 2 * t + 1) → (c t ↔ c0 t)
/-- nothing goes on from the start's in -/
theorem rsd_s (h : FLW S op s e f c n) {y : Nat} (hr : rsd S op s e f c (2 * s) y) : False := by
  rcases hr with ⟨u, v, a, -⟩ | ⟨u, v, a, -, -, -, z⟩ | ⟨t, a, -, -, b, -⟩ | ⟨t, a, -⟩
  · omega
  · have : v = s := by omega
    subst this
    exact (h.1 _ _ z).2.2.2.1 rfl
  · omega
  · omega
end WY
