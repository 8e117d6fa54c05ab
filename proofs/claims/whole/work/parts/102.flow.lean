/-! flows and cuts: sums of whole numbers -/
def zs (n : Nat) (f : Nat → Int) : Int := match n with
  | 0 => 0
  | n + 1 => zs n f + f n
noncomputable def iv (p : Prop) : Int := @ite Int p (Classical.propDecidable p) 1 0
theorem iv_t {p : Prop} (h : p) : iv p = 1 := if_pos h
theorem iv_f {p : Prop} (h : ¬ p) : iv p = 0 := if_neg h
theorem iv_01 (p : Prop) : iv p = 0 ∨ iv p = 1 := by
  rcases Classical.em p with h | h
  · exact Or.inr (iv_t h)
  · exact Or.inl (iv_f h)
theorem iv_of {p : Prop} (h : iv p = 1) : p := by
  rcases Classical.em p with q | q
  · exact q
  · rw [iv_f q] at h; cases h
theorem iv_no {p : Prop} (h : iv p = 0) : ¬ p := fun q => by rw [iv_t q] at h; cases h
theorem iv_c {p q : Prop} (h : p ↔ q) : iv p = iv q := by
  rcases Classical.em p with z | z
  · rw [iv_t z, iv_t (h.mp z)]
  · rw [iv_f z, iv_f (fun y => z (h.mpr y))]
theorem iv_le {p q : Prop} (h : p → q) : iv p ≤ iv q := by
  rcases Classical.em p with z | z
  · rw [iv_t z, iv_t (h z)]; exact Int.le_refl _
  · rw [iv_f z]
    rcases iv_01 q with y | y <;> rw [y] <;> decide
theorem zs_c {n : Nat} {f g : Nat → Int} (h : ∀ i, i < n → f i = g i) : zs n f = zs n g := by
  induction n with
  | zero => rfl
  | succ n ih => show zs n f + f n = zs n g + g n; rw [ih (fun i hi => h i (by omega)), h n (by omega)]
theorem zs_0 {n : Nat} {f : Nat → Int} (h : ∀ i, i < n → f i = 0) : zs n f = 0 := by
  induction n with
  | zero => rfl
  | succ n ih => show zs n f + f n = 0; rw [ih (fun i hi => h i (by omega)), h n (by omega)]; rfl
theorem zs_add {n : Nat} {f g : Nat → Int} : zs n (fun i => f i + g i) = zs n f + zs n g := by
  induction n with
  | zero => rfl
  | succ n ih =>
    show zs n (fun i => f i + g i) + (f n + g n) = zs n f + f n + (zs n g + g n)
    rw [ih]; omega
theorem zs_sub {n : Nat} {f g : Nat → Int} : zs n (fun i => f i - g i) = zs n f - zs n g := by
  induction n with
  | zero => rfl
  | succ n ih =>
    show zs n (fun i => f i - g i) + (f n - g n) = zs n f + f n - (zs n g + g n)
    rw [ih]; omega
theorem zs_le {n : Nat} {f g : Nat → Int} (h : ∀ i, i < n → f i ≤ g i) : zs n f ≤ zs n g := by
  induction n with
  | zero => exact Int.le_refl _
  | succ n ih =>
    show zs n f + f n ≤ zs n g + g n
    have h1 := ih (fun i hi => h i (by omega))
    have h2 := h n (by omega)
    omega
theorem zs_eq {n : Nat} {f g : Nat → Int} (h : ∀ i, i < n → f i ≤ g i) (e : zs n g ≤ zs n f) : ∀ i, i < n → f i = g i := by
  induction n with
  | zero => intro i hi; omega
  | succ n ih =>
    have e' : zs n g + g n ≤ zs n f + f n := e
    have h1 := zs_le (fun i (hi : i < n) => h i (by omega))
    have h2 := h n (by omega)
    intro i hi
    by_cases q : i = n
    · subst q; omega
    · exact ih (fun i hi => h i (by omega)) (by omega) i (by omega)
theorem zs_lt {n k : Nat} {f g : Nat → Int} (hk : k < n) (h : ∀ i, i < n → f i ≤ g i) (h1 : f k + 1 ≤ g k) : zs n f + 1 ≤ zs n g := by
  by_cases q : zs n f < zs n g
  · omega
  · have := zs_eq h (by omega) k hk
    omega
theorem zs_nn {n : Nat} {f : Nat → Int} (h : ∀ i, i < n → 0 ≤ f i) : 0 ≤ zs n f := by
  have := zs_le (f := fun _ => 0) (g := f) h
  rw [zs_0 (fun _ _ => rfl)] at this
  exact this
theorem zs_one {n k : Nat} {f : Nat → Int} (hk : k < n) (h : ∀ i, i < n → ¬ i = k → f i = 0) : zs n f = f k := by
  induction n with
  | zero => omega
  | succ n ih =>
    show zs n f + f n = _
    by_cases q : k = n
    · subst q
      rw [zs_0 (fun i hi => h i (by omega) (by omega)), Int.zero_add]
    · rw [ih (by omega) (fun i hi hn => h i (by omega) hn), h n (by omega) (fun z => q z.symm), Int.add_zero]
theorem zs_ge {n k : Nat} {f : Nat → Int} (hk : k < n) (h : ∀ i, i < n → 0 ≤ f i) : f k ≤ zs n f := by
  have h1 := zs_le (f := fun i => iv (i = k) * f k) (g := f) (n := n) (fun i hi => by
    show iv (i = k) * f k ≤ f i
    by_cases q : i = k
    · subst q; rw [iv_t rfl, Int.one_mul]; exact Int.le_refl _
    · rw [iv_f q, Int.zero_mul]; exact h i hi)
  rw [zs_one hk (fun i hi hn => by rw [iv_f hn, Int.zero_mul]), iv_t rfl, Int.one_mul] at h1
  exact h1
theorem zs_swap {n m : Nat} {f : Nat → Nat → Int} : zs n (fun i => zs m (fun j => f i j)) = zs m (fun j => zs n (fun i => f i j)) := by
  induction n with
  | zero => exact (zs_0 (fun _ _ => rfl)).symm
  | succ n ih =>
    show zs n (fun i => zs m (fun j => f i j)) + zs m (fun j => f n j) = _
    rw [ih, ← zs_add]
    rfl
/-- one term anew -/
theorem zs_up {n k : Nat} {f g : Nat → Int} (hk : k < n) (h : ∀ i, i < n → ¬ i = k → g i = f i) : zs n g = zs n f + (g k - f k) := by
  have e : zs n (fun i => g i - f i) = g k - f k := zs_one (f := fun i => g i - f i) hk (fun i hi hn => by show g i - f i = 0; rw [h i hi hn]; omega)
  rw [zs_sub] at e
  omega
theorem zs_if {n : Nat} {p : Prop} {f : Nat → Int} : zs n (fun i => iv p * f i) = iv p * zs n f := by
  rcases iv_01 p with h | h
  · rw [h, Int.zero_mul]; exact zs_0 (fun i _ => Int.zero_mul _)
  · rw [h, Int.one_mul]; exact zs_c (fun i _ => Int.one_mul _)
/-! a flow f (from TUFT to TUFT), c: the TUFTS it goes over, n ways on from s to e; op: the TUFTS that may be gone over -/
def Adj (S : Nat → Int32) (u v : Nat) : Prop := ∃ d, d < 4 ∧ beN S u d = some v
def FLW (S : Nat → Int32) (op : Nat → Prop) (s e : Nat) (f : Nat → Nat → Prop) (c : Nat → Prop) (n : Int) : Prop :=
  (∀ u v, f u v → Adj S u v ∧ op u ∧ op v ∧ ¬ v = s ∧ ¬ u = e) ∧
  (∀ t, t < 144 → ¬ t = s → ¬ t = e → zs 144 (fun u => iv (f u t)) = iv (c t) ∧ zs 144 (fun v => iv (f t v)) = iv (c t)) ∧
  zs 144 (fun v => iv (f s v)) = n ∧ zs 144 (fun u => iv (f u e)) = n
/-- what can cross out of R at most -/
noncomputable def capA (S : Nat → Int32) (op : Nat → Prop) (s e : Nat) (R : Nat → Prop) (u v : Nat) : Int := iv (Adj S u v ∧ op u ∧ op v ∧ ¬ v = s ∧ ¬ u = e ∧ R (2 * u + 1) ∧ ¬ R (2 * v))
noncomputable def capV (op : Nat → Prop) (s e : Nat) (R : Nat → Prop) (t : Nat) : Int := iv (¬ t = s ∧ ¬ t = e ∧ op t ∧ R (2 * t) ∧ ¬ R (2 * t + 1))
noncomputable def cap (S : Nat → Int32) (op : Nat → Prop) (s e : Nat) (R : Nat → Prop) : Int := zs 144 (fun u => zs 144 (fun v => capA S op s e R u v)) + zs 144 (capV op s e R)
noncomputable def curA (f : Nat → Nat → Prop) (R : Nat → Prop) (u v : Nat) : Int := iv (f u v) * (iv (R (2 * u + 1)) - iv (R (2 * v)))
noncomputable def curV (s e : Nat) (c : Nat → Prop) (R : Nat → Prop) (t : Nat) : Int := iv (¬ t = s ∧ ¬ t = e ∧ c t) * (iv (R (2 * t)) - iv (R (2 * t + 1)))
section FW
variable {S : Nat → Int32} {op : Nat → Prop} {s e : Nat} {f : Nat → Nat → Prop} {c : Nat → Prop} {n : Int} {R : Nat → Prop}
theorem FLW.nn (h : FLW S op s e f c n) : 0 ≤ n := by
  rw [← h.2.2.1]
  exact zs_nn (fun i _ => by rcases iv_01 (f s i) with q | q <;> rw [q] <;> decide)
theorem FLW.bal (h : FLW S op s e f c n) (hs : s < 144) (he : e < 144) (hse : ¬ s = e) : zs 144 (fun u => zs 144 (fun v => curA f R u v)) + zs 144 (curV s e c R) = n * (iv (R (2 * s + 1)) - iv (R (2 * e))) := by
  obtain ⟨h1, h2, h3, h4⟩ := h
  have e1 : zs 144 (fun u => zs 144 (fun v => curA f R u v)) = zs 144 (fun u => iv (R (2 * u + 1)) * zs 144 (fun v => iv (f u v))) - zs 144 (fun v => iv (R (2 * v)) * zs 144 (fun u => iv (f u v))) := by
    have a1 : zs 144 (fun u => iv (R (2 * u + 1)) * zs 144 (fun v => iv (f u v))) = zs 144 (fun u => zs 144 (fun v => iv (R (2 * u + 1)) * iv (f u v))) := zs_c (fun u _ => zs_if.symm)
    have a2 : zs 144 (fun v => iv (R (2 * v)) * zs 144 (fun u => iv (f u v))) = zs 144 (fun u => zs 144 (fun v => iv (R (2 * v)) * iv (f u v))) := by
      rw [zs_swap]
      exact zs_c (fun v _ => zs_if.symm)
    rw [a1, a2, ← zs_sub]
    refine zs_c (fun u _ => ?_)
    rw [← zs_sub]
    refine zs_c (fun v _ => ?_)
    unfold curA
    rw [Int.mul_sub, Int.mul_comm, Int.mul_comm (iv (f u v)) (iv (R (2 * v)))]
  have e2 : zs 144 (fun u => iv (R (2 * u + 1)) * zs 144 (fun v => iv (f u v))) = n * iv (R (2 * s + 1)) + zs 144 (fun t => iv (¬ t = s ∧ ¬ t = e ∧ c t) * iv (R (2 * t + 1))) := by
    have a : zs 144 (fun t => iv (t = s) * (n * iv (R (2 * s + 1)))) = n * iv (R (2 * s + 1)) := by
      rw [zs_one hs (fun i hi hn => by rw [iv_f hn, Int.zero_mul]), iv_t rfl, Int.one_mul]
    rw [← a, ← zs_add]
    refine zs_c (fun t ht => ?_)
    by_cases q : t = s
    · subst q
      rw [h3, iv_t rfl, iv_f (show ¬ (¬ t = t ∧ ¬ t = e ∧ c t) from fun z => z.1 rfl), Int.zero_mul, Int.add_zero, Int.one_mul, Int.mul_comm]
    · by_cases q2 : t = e
      · subst q2
        rw [iv_f q, Int.zero_mul, iv_f (show ¬ (¬ t = s ∧ ¬ t = t ∧ c t) from fun z => z.2.1 rfl), Int.zero_mul, zs_0 (fun v _ => iv_f (fun z => (h1 _ _ z).2.2.2.2 rfl)), Int.mul_zero]; rfl
      · rw [(h2 t ht q q2).2, iv_f q, Int.zero_mul, Int.zero_add, iv_c (show (¬ t = s ∧ ¬ t = e ∧ c t) ↔ c t from ⟨fun z => z.2.2, fun z => ⟨q, q2, z⟩⟩), Int.mul_comm]
  have e3 : zs 144 (fun v => iv (R (2 * v)) * zs 144 (fun u => iv (f u v))) = n * iv (R (2 * e)) + zs 144 (fun t => iv (¬ t = s ∧ ¬ t = e ∧ c t) * iv (R (2 * t))) := by
    have a : zs 144 (fun t => iv (t = e) * (n * iv (R (2 * e)))) = n * iv (R (2 * e)) := by
      rw [zs_one he (fun i hi hn => by rw [iv_f hn, Int.zero_mul]), iv_t rfl, Int.one_mul]
    rw [← a, ← zs_add]
    refine zs_c (fun t ht => ?_)
    by_cases q : t = e
    · subst q
      rw [h4, iv_t rfl, iv_f (show ¬ (¬ t = s ∧ ¬ t = t ∧ c t) from fun z => z.2.1 rfl), Int.zero_mul, Int.add_zero, Int.one_mul, Int.mul_comm]
    · by_cases q2 : t = s
      · subst q2
        rw [iv_f q, Int.zero_mul, iv_f (show ¬ (¬ t = t ∧ ¬ t = e ∧ c t) from fun z => z.1 rfl), Int.zero_mul, zs_0 (fun v _ => iv_f (fun z => (h1 _ _ z).2.2.2.1 rfl)), Int.mul_zero]; rfl
      · rw [(h2 t ht q2 q).1, iv_f q, Int.zero_mul, Int.zero_add, iv_c (show (¬ t = s ∧ ¬ t = e ∧ c t) ↔ c t from ⟨fun z => z.2.2, fun z => ⟨q2, q, z⟩⟩), Int.mul_comm]
  have e4 : zs 144 (curV s e c R) = zs 144 (fun t => iv (¬ t = s ∧ ¬ t = e ∧ c t) * iv (R (2 * t))) - zs 144 (fun t => iv (¬ t = s ∧ ¬ t = e ∧ c t) * iv (R (2 * t + 1))) := by
    rw [← zs_sub]
    exact zs_c (fun t _ => by unfold curV; rw [Int.mul_sub])
  rw [e1, e2, e3, e4, Int.mul_sub]
  omega
theorem iv_dif (p q : Prop) : iv p - iv q ≤ 1 ∧ -1 ≤ iv p - iv q := by
  rcases iv_01 p with a | a <;> rcases iv_01 q with b | b <;> rw [a, b] <;> decide
theorem FLW.opc (h : FLW S op s e f c n) {t : Nat} (ht : t < 144) (h1 : ¬ t = s) (h2 : ¬ t = e) (hc : c t) : op t := by
  have h3 := (h.2.1 t ht h1 h2).1
  rw [iv_t hc] at h3
  rcases Classical.em (op t) with q | q
  · exact q
  · rw [zs_0 (fun u _ => iv_f (fun z => q (h.1 _ _ z).2.2.1))] at h3
    cases h3
theorem FLW.leA (h : FLW S op s e f c n) (u v : Nat) : curA f R u v ≤ capA S op s e R u v := by
  unfold curA capA
  rcases Classical.em (f u v) with q | q
  · obtain ⟨g1, g2, g3, g4, g5⟩ := h.1 u v q
    rw [iv_t q, Int.one_mul]
    rcases Classical.em (R (2 * u + 1)) with r1 | r1
    · rcases Classical.em (R (2 * v)) with r2 | r2
      · rw [iv_t r1, iv_t r2, iv_f (fun z => z.2.2.2.2.2.2 r2)]; decide
      · rw [iv_t r1, iv_f r2, iv_t ⟨g1, g2, g3, g4, g5, r1, r2⟩]; decide
    · rw [iv_f r1, iv_f (show ¬ (Adj S u v ∧ op u ∧ op v ∧ ¬ v = s ∧ ¬ u = e ∧ R (2 * u + 1) ∧ ¬ R (2 * v)) from fun z => r1 z.2.2.2.2.2.1)]
      rcases iv_01 (R (2 * v)) with r2 | r2 <;> rw [r2] <;> decide
  · rw [iv_f q, Int.zero_mul]
    rcases iv_01 (Adj S u v ∧ op u ∧ op v ∧ ¬ v = s ∧ ¬ u = e ∧ R (2 * u + 1) ∧ ¬ R (2 * v)) with r2 | r2 <;> rw [r2] <;> decide
theorem FLW.leV (h : FLW S op s e f c n) {t : Nat} (ht : t < 144) : curV s e c R t ≤ capV op s e R t := by
  unfold curV capV
  rcases Classical.em (¬ t = s ∧ ¬ t = e ∧ c t) with q | q
  · have g := h.opc ht q.1 q.2.1 q.2.2
    rw [iv_t q, Int.one_mul]
    rcases Classical.em (R (2 * t)) with r1 | r1
    · rcases Classical.em (R (2 * t + 1)) with r2 | r2
      · rw [iv_t r1, iv_t r2, iv_f (fun z => z.2.2.2.2 r2)]; decide
      · rw [iv_t r1, iv_f r2, iv_t ⟨q.1, q.2.1, g, r1, r2⟩]; decide
    · rw [iv_f r1, iv_f (show ¬ (¬ t = s ∧ ¬ t = e ∧ op t ∧ R (2 * t) ∧ ¬ R (2 * t + 1)) from fun z => r1 z.2.2.2.1)]
      rcases iv_01 (R (2 * t + 1)) with r2 | r2 <;> rw [r2] <;> decide
  · rw [iv_f q, Int.zero_mul]
    rcases iv_01 (¬ t = s ∧ ¬ t = e ∧ op t ∧ R (2 * t) ∧ ¬ R (2 * t + 1)) with r2 | r2 <;> rw [r2] <;> decide
/-- no cut is smaller than a flow -/
theorem FLW.weak (h : FLW S op s e f c n) (hs : s < 144) (he : e < 144) (hse : ¬ s = e) (r1 : R (2 * s + 1)) (r2 : ¬ R (2 * e)) : n ≤ cap S op s e R := by
  have hb := h.bal hs he hse (R := R)
  rw [iv_t r1, iv_f r2, show (1 : Int) - 0 = 1 from rfl, Int.mul_one] at hb
  have a1 : zs 144 (fun u => zs 144 (fun v => curA f R u v)) ≤ zs 144 (fun u => zs 144 (fun v => capA S op s e R u v)) := zs_le (fun u _ => zs_le (fun v _ => h.leA (R := R) u v))
  have a2 : zs 144 (curV s e c R) ≤ zs 144 (capV op s e R) := zs_le (fun t ht => h.leV (R := R) ht)
  unfold cap
  omega
/-- R can't be left any more -/
def clsd (S : Nat → Int32) (op : Nat → Prop) (s e : Nat) (f : Nat → Nat → Prop) (c : Nat → Prop) (R : Nat → Prop) : Prop :=
  (∀ u v, u < 144 → v < 144 → Adj S u v → op u → op v → ¬ v = s → ¬ u = e → R (2 * u + 1) → ¬ f u v → R (2 * v)) ∧ (∀ u v, u < 144 → v < 144 → f u v → R (2 * v) → R (2 * u + 1)) ∧
  (∀ t, t < 144 → ¬ t = s → ¬ t = e → op t → R (2 * t) → ¬ c t → R (2 * t + 1)) ∧ (∀ t, t < 144 → ¬ t = s → ¬ t = e → c t → R (2 * t + 1) → R (2 * t))
theorem FLW.cut (h : FLW S op s e f c n) (hs : s < 144) (he : e < 144) (hse : ¬ s = e) (hR : clsd S op s e f c R) : cap S op s e R = n * (iv (R (2 * s + 1)) - iv (R (2 * e))) := by
  obtain ⟨k1, k2, k3, k4⟩ := hR
  rw [← h.bal hs he hse (R := R)]
  unfold cap
  have a1 : zs 144 (fun u => zs 144 (fun v => capA S op s e R u v)) = zs 144 (fun u => zs 144 (fun v => curA f R u v)) := by
    refine zs_c (fun u hu => zs_c (fun v hv => ?_))
    unfold capA curA
    rcases Classical.em (f u v) with q | q
    · obtain ⟨g1, g2, g3, g4, g5⟩ := h.1 u v q
      rw [iv_t q, Int.one_mul]
      rcases Classical.em (R (2 * u + 1)) with r1 | r1
      · rcases Classical.em (R (2 * v)) with r2 | r2
        · rw [iv_t r1, iv_t r2, iv_f (fun z => z.2.2.2.2.2.2 r2)]; rfl
        · rw [iv_t r1, iv_f r2, iv_t ⟨g1, g2, g3, g4, g5, r1, r2⟩]; rfl
      · have r2 : ¬ R (2 * v) := fun z => r1 (k2 u v hu hv q z)
        rw [iv_f r1, iv_f r2, iv_f (fun z => r1 z.2.2.2.2.2.1)]; rfl
    · rw [iv_f q, Int.zero_mul]
      exact iv_f (fun z => z.2.2.2.2.2.2 (k1 u v hu hv z.1 z.2.1 z.2.2.1 z.2.2.2.1 z.2.2.2.2.1 z.2.2.2.2.2.1 q))
  have a2 : zs 144 (capV op s e R) = zs 144 (curV s e c R) := by
    refine zs_c (fun t ht => ?_)
    unfold capV curV
    rcases Classical.em (¬ t = s ∧ ¬ t = e) with q | q
    · rcases Classical.em (c t) with q2 | q2
      · have g := h.opc ht q.1 q.2 q2
        rw [iv_t (show ¬ t = s ∧ ¬ t = e ∧ c t from ⟨q.1, q.2, q2⟩), Int.one_mul]
        rcases Classical.em (R (2 * t)) with r1 | r1
        · rcases Classical.em (R (2 * t + 1)) with r2 | r2
          · rw [iv_t r1, iv_t r2, iv_f (fun z => z.2.2.2.2 r2)]; rfl
          · rw [iv_t r1, iv_f r2, iv_t ⟨q.1, q.2, g, r1, r2⟩]; rfl
        · have r2 : ¬ R (2 * t + 1) := fun z => r1 (k4 t ht q.1 q.2 q2 z)
          rw [iv_f r1, iv_f r2, iv_f (fun z => r1 z.2.2.2.1)]; rfl
      · rw [iv_f (show ¬ (¬ t = s ∧ ¬ t = e ∧ c t) from fun z => q2 z.2.2), Int.zero_mul]
        exact iv_f (fun z => z.2.2.2.2 (k3 t ht q.1 q.2 z.2.2.1 z.2.2.2.1 q2))
    · rw [iv_f (show ¬ (¬ t = s ∧ ¬ t = e ∧ c t) from fun z => q ⟨z.1, z.2.1⟩), Int.zero_mul]
      exact iv_f (fun z => q ⟨z.1, z.2.1⟩)
  rw [a1, a2]
/-- what can't be left and holds the start alone: no flow is larger -/
theorem FLW.max {f' : Nat → Nat → Prop} {c' : Nat → Prop} {n' : Int} (h : FLW S op s e f c n) (h' : FLW S op s e f' c' n') (hs : s < 144) (he : e < 144) (hse : ¬ s = e) (hR : clsd S op s e f c R) (r1 : R (2 * s + 1)) (r2 : ¬ R (2 * e)) : n' ≤ n := by
  have h1 := h'.weak hs he hse r1 r2
  rw [h.cut hs he hse hR, iv_t r1, iv_f r2, show (1 : Int) - 0 = 1 from rfl, Int.mul_one] at h1
  exact h1
/-- a TUFT shut that all of a largest flow's ways need -/
theorem FLW.less {x : Nat} {f' : Nat → Nat → Prop} {c' : Nat → Prop} {n' : Int} (h : FLW S op s e f c n) (h' : FLW S (fun t => op t ∧ ¬ t = x) s e f' c' n') (hs : s < 144) (he : e < 144) (hse : ¬ s = e) (hx : x < 144) (x1 : ¬ x = s) (x2 : ¬ x = e) (hc : c x) (hR : clsd S op s e f c R) (r1 : R (2 * x)) (r2 : ¬ R (2 * x + 1)) : n' + 1 ≤ n := by
  have hop := h.opc hx x1 x2 hc
  have hA : ∀ u, u < 144 → zs 144 (fun v => capA S (fun t => op t ∧ ¬ t = x) s e R u v) ≤ zs 144 (fun v => capA S op s e R u v) := fun u _ => zs_le (fun v _ => iv_le (fun z => ⟨z.1, z.2.1.1, z.2.2.1.1, z.2.2.2⟩))
  have hV : zs 144 (capV (fun t => op t ∧ ¬ t = x) s e R) + 1 ≤ zs 144 (capV op s e R) := zs_lt hx (fun t _ => iv_le (fun z => ⟨z.1, z.2.1, z.2.2.1.1, z.2.2.2⟩)) (by
    unfold capV
    rw [iv_t (show ¬ x = s ∧ ¬ x = e ∧ op x ∧ R (2 * x) ∧ ¬ R (2 * x + 1) from ⟨x1, x2, hop, r1, r2⟩), iv_f (fun z => z.2.2.1.2 rfl)]
    decide)
  have hA2 := zs_le hA
  have hcap : cap S (fun t => op t ∧ ¬ t = x) s e R + 1 ≤ cap S op s e R := by unfold cap; omega
  have hnn : 0 ≤ cap S (fun t => op t ∧ ¬ t = x) s e R := by
    unfold cap
    have a := zs_nn (n := 144) (f := fun u => zs 144 (fun v => capA S (fun t => op t ∧ ¬ t = x) s e R u v)) (fun u _ => zs_nn (fun v _ => by unfold capA; rcases iv_01 (Adj S u v ∧ (op u ∧ ¬ u = x) ∧ (op v ∧ ¬ v = x) ∧ ¬ v = s ∧ ¬ u = e ∧ R (2 * u + 1) ∧ ¬ R (2 * v)) with q | q <;> rw [q] <;> decide))
    have b := zs_nn (n := 144) (f := capV (fun t => op t ∧ ¬ t = x) s e R) (fun t _ => by unfold capV; rcases iv_01 (¬ t = s ∧ ¬ t = e ∧ (op t ∧ ¬ t = x) ∧ R (2 * t) ∧ ¬ R (2 * t + 1)) with q | q <;> rw [q] <;> decide)
    omega
  have hcut := h.cut hs he hse hR
  have hn := h.nn
  rcases Classical.em (R (2 * s + 1)) with q1 | q1
  · rcases Classical.em (R (2 * e)) with q2 | q2
    · rw [iv_t q1, iv_t q2, Int.sub_self, Int.mul_zero] at hcut
      omega
    · have hw := h'.weak hs he hse q1 q2
      rw [iv_t q1, iv_f q2, show (1 : Int) - 0 = 1 from rfl, Int.mul_one] at hcut
      omega
  · have : n * (iv (R (2 * s + 1)) - iv (R (2 * e))) ≤ 0 := by
      rw [iv_f q1]
      rcases iv_01 (R (2 * e)) with q | q <;> rw [q]
      · simp
      · rw [show (0 : Int) - 1 = -1 from rfl, Int.mul_neg, Int.mul_one]; omega
    omega
/-- .. and the other way about: where one TUFT shut leaves less, the flow goes over it and can't go round -/
theorem FLW.need {x : Nat} {f' : Nat → Nat → Prop} {c' : Nat → Prop} {n' : Int} {R' : Nat → Prop} (h : FLW S op s e f c n) (h' : FLW S (fun t => op t ∧ ¬ t = x) s e f' c' n') (hs : s < 144) (he : e < 144) (hse : ¬ s = e) (hx : x < 144) (x1 : ¬ x = s) (x2 : ¬ x = e) (hR : clsd S (fun t => op t ∧ ¬ t = x) s e f' c' R') (r1 : R' (2 * s + 1)) (r2 : ¬ R' (2 * e)) :
    n ≤ n' + 1 ∧ (n' < n → c x ∧ ∃ R, clsd S op s e f c R ∧ R (2 * x) ∧ ¬ R (2 * x + 1)) := by
  obtain ⟨R, eR⟩ : ∃ R : Nat → Prop, R = fun q => (R' q ∨ q = 2 * x) ∧ ¬ q = 2 * x + 1 := ⟨_, rfl⟩
  have Rx : R (2 * x) := by rw [eR]; exact ⟨Or.inr rfl, by omega⟩
  have Rx' : ¬ R (2 * x + 1) := by rw [eR]; exact fun z => z.2 rfl
  have Ro : ∀ q, ¬ q = 2 * x → ¬ q = 2 * x + 1 → (R q ↔ R' q) := fun q h1 h2 => by
    rw [eR]
    exact ⟨fun z => by rcases z.1 with y | y; exact y; exact absurd y h1, fun z => ⟨Or.inl z, h2⟩⟩
  have hcut' := h'.cut hs he hse hR
  rw [iv_t r1, iv_f r2, show (1 : Int) - 0 = 1 from rfl, Int.mul_one] at hcut'
  have Rs : R (2 * s + 1) := (Ro _ (by omega) (by omega)).mpr r1
  have Re : ¬ R (2 * e) := fun z => r2 ((Ro _ (by omega) (by omega)).mp z)
  have hA : zs 144 (fun u => zs 144 (fun v => capA S op s e R u v)) ≤ zs 144 (fun u => zs 144 (fun v => capA S (fun t => op t ∧ ¬ t = x) s e R' u v)) := zs_le (fun u _ => zs_le (fun v _ => iv_le (fun z => by
    have hu : ¬ u = x := fun y => by subst y; exact Rx' z.2.2.2.2.2.1
    have hv : ¬ v = x := fun y => by subst y; exact z.2.2.2.2.2.2 Rx
    exact ⟨z.1, ⟨z.2.1, hu⟩, ⟨z.2.2.1, hv⟩, z.2.2.2.1, z.2.2.2.2.1, (Ro _ (by omega) (by omega)).mp z.2.2.2.2.2.1, fun y => z.2.2.2.2.2.2 ((Ro _ (by omega) (by omega)).mpr y)⟩)))
  have hV : zs 144 (capV op s e R) ≤ zs 144 (fun t => capV (fun t => op t ∧ ¬ t = x) s e R' t + iv (t = x)) := zs_le (fun t _ => by
    unfold capV
    by_cases q : t = x
    · subst q
      rw [iv_t rfl]
      rcases iv_01 (¬ t = s ∧ ¬ t = e ∧ op t ∧ R (2 * t) ∧ ¬ R (2 * t + 1)) with a | a <;> rcases iv_01 (¬ t = s ∧ ¬ t = e ∧ (op t ∧ ¬ t = t) ∧ R' (2 * t) ∧ ¬ R' (2 * t + 1)) with b | b <;> rw [a, b] <;> decide
    · rw [iv_f q, Int.add_zero]
      exact iv_le (fun z => ⟨z.1, z.2.1, ⟨z.2.2.1, q⟩, (Ro _ (by omega) (by omega)).mp z.2.2.2.1, fun y => z.2.2.2.2 ((Ro _ (by omega) (by omega)).mpr y)⟩))
  rw [zs_add, zs_one (f := fun t => iv (t = x)) hx (fun i _ hi => iv_f hi), iv_t rfl] at hV
  have hcap : cap S op s e R ≤ n' + 1 := by
    unfold cap at hcut' ⊢
    omega
  have hw := h.weak hs he hse Rs Re
  refine ⟨by omega, fun hlt => ?_⟩
  have hb := h.bal hs he hse (R := R)
  rw [iv_t Rs, iv_f Re, show (1 : Int) - 0 = 1 from rfl, Int.mul_one] at hb
  have a1 : ∀ u, u < 144 → zs 144 (fun v => curA f R u v) ≤ zs 144 (fun v => capA S op s e R u v) := fun u _ => zs_le (fun v _ => h.leA (R := R) u v)
  have a2 : ∀ t, t < 144 → curV s e c R t ≤ capV op s e R t := fun t ht => h.leV (R := R) ht
  have b1 : zs 144 (fun u => zs 144 (fun v => curA f R u v)) ≤ zs 144 (fun u => zs 144 (fun v => capA S op s e R u v)) := zs_le a1
  have b2 : zs 144 (curV s e c R) ≤ zs 144 (capV op s e R) := zs_le a2
  have hc2 : zs 144 (fun u => zs 144 (fun v => capA S op s e R u v)) + zs 144 (capV op s e R) ≤ n' + 1 := hcap
  have tA : ∀ u, u < 144 → ∀ v, v < 144 → curA f R u v = capA S op s e R u v := fun u hu => by
    have h9 : zs 144 (fun v => curA f R u v) = zs 144 (fun v => capA S op s e R u v) := zs_eq a1 (by omega) u hu
    exact zs_eq (fun v _ => h.leA (R := R) u v) (Int.le_of_eq h9.symm)
  have tV := zs_eq a2 (by omega)
  have hopx : ¬ op x → False := fun q => by
    -- x shut already: the same graph
    have e1 : FLW S op s e f' c' n' := by
      refine ⟨fun u v z => ?_, h'.2.1, h'.2.2⟩
      obtain ⟨g1, g2, g3, g4⟩ := h'.1 u v z
      exact ⟨g1, g2.1, g3.1, g4⟩
    have e2 : clsd S op s e f' c' R' := by
      obtain ⟨k1, k2, k3, k4⟩ := hR
      have ox : ∀ t, op t → op t ∧ ¬ t = x := fun t z => ⟨z, fun y => by subst y; exact q z⟩
      exact ⟨fun u v hu hv a b d => k1 u v hu hv a (ox u b) (ox v d), k2, fun t ht a b d => k3 t ht a b (ox t d), k4⟩
    have := e1.max h hs he hse e2 r1 r2
    omega
  have hop : op x := by
    rcases Classical.em (op x) with q | q
    · exact q
    · exact absurd (hopx q) id
  have hcx : c x := by
    have z := tV x hx
    unfold curV capV at z
    rw [iv_t (show ¬ x = s ∧ ¬ x = e ∧ op x ∧ R (2 * x) ∧ ¬ R (2 * x + 1) from ⟨x1, x2, hop, Rx, Rx'⟩), iv_t Rx, iv_f Rx', show (1 : Int) - 0 = 1 from rfl, Int.mul_one] at z
    exact (iv_of z).2.2
  refine ⟨hcx, R, ⟨fun u v hu hv g1 g2 g3 g4 g5 ru hf => ?_, fun u v hu hv hf rv => ?_, fun t ht g1 g2 g3 rt hc => ?_, fun t ht g1 g2 hc rt => ?_⟩, Rx, Rx'⟩
  · rcases Classical.em (R (2 * v)) with q | q
    · exact q
    · have z := tA u hu v hv
      unfold curA capA at z
      rw [iv_f hf, Int.zero_mul, iv_t ⟨g1, g2, g3, g4, g5, ru, q⟩] at z
      cases z
  · rcases Classical.em (R (2 * u + 1)) with q | q
    · exact q
    · have z := tA u hu v hv
      unfold curA capA at z
      rw [iv_t hf, Int.one_mul, iv_f q, iv_t rv, iv_f (fun y => q y.2.2.2.2.2.1)] at z
      cases z
  · rcases Classical.em (R (2 * t + 1)) with q | q
    · exact q
    · have z := tV t ht
      unfold curV capV at z
      rw [iv_f (show ¬ (¬ t = s ∧ ¬ t = e ∧ c t) from fun y => hc y.2.2), Int.zero_mul, iv_t ⟨g1, g2, g3, rt, q⟩] at z
      cases z
  · rcases Classical.em (R (2 * t)) with q | q
    · exact q
    · have z := tV t ht
      unfold curV capV at z
      rw [iv_t (show ¬ t = s ∧ ¬ t = e ∧ c t from ⟨g1, g2, hc⟩), Int.one_mul, iv_f q, iv_t rt, iv_f (fun y => q y.2.2.2.1)] at z
      cases z
end FW
