/-! READINGS: numbers by their digits -/
def dg (B : Nat) : Nat → Nat → Nat → Nat
  | 0, _, _ => 0
  | k + 1, e, w => if w = k then e % B else dg B k (e / B) w
def vl (B : Nat) (c : Nat → Nat) : Nat → Nat
  | 0 => 0
  | k + 1 => vl B c k * B + c k
section DG
variable {B k d e v p w : Nat} {c c' : Nat → Nat}
theorem dg_last : dg B (k + 1) e k = e % B := if_pos rfl
theorem dg_up (hw : ¬ w = k) : dg B (k + 1) e w = dg B k (e / B) w := if_neg hw
theorem dg_pre (hw : w < k) : ∀ d e, dg B (k + d) e w = dg B k (e / B ^ d) w := by
  intro d
  induction d with
  | zero => intro e; rw [Nat.pow_zero, Nat.div_one]; rfl
  | succ d ih =>
    intro e
    rw [show k + (d + 1) = (k + d) + 1 by omega, dg_up (by omega), ih, Nat.div_div_eq_div_mul, Nat.pow_succ, Nat.mul_comm]
theorem dg_lt (hB : 0 < B) : ∀ k e w, dg B k e w < B := by
  intro k
  induction k with
  | zero => intro e w; exact hB
  | succ k ih =>
    intro e w
    by_cases q : w = k
    · rw [q, dg_last]; exact Nat.mod_lt _ hB
    · rw [dg_up q]; exact ih _ _
theorem ba_div (hp : p < B) (v : Nat) : (v * B + p) / B = v := by
  rw [Nat.mul_comm, Nat.mul_add_div (by omega), Nat.div_eq_of_lt hp, Nat.add_zero]
theorem ba_mod (hp : p < B) (v : Nat) : (v * B + p) % B = p := by
  rw [Nat.mul_comm, Nat.mul_add_mod, Nat.mod_eq_of_lt hp]
theorem dg_child (hp : p < B) (hw : w < k) : dg B (k + 1) (v * B + p) w = dg B k v w := by
  rw [dg_up (by omega), ba_div hp]
theorem dg_new (hp : p < B) : dg B (k + 1) (v * B + p) k = p := by
  rw [dg_last, ba_mod hp]
theorem dg_low (hB : 0 < B) : ∀ d x i, k ≤ i → i < k + d → dg B (k + d) (x * B ^ d) i = 0 := by
  intro d
  induction d with
  | zero => intro x i h1 h2; omega
  | succ d ih =>
    intro x i h1 h2
    rw [show k + (d + 1) = (k + d) + 1 by omega, Nat.pow_succ, ← Nat.mul_assoc]
    by_cases q : i = k + d
    · rw [q, dg_last]; exact Nat.mul_mod_left _ _
    · rw [dg_up q, Nat.mul_div_cancel _ hB]
      exact ih x i h1 (by omega)
theorem rg_div {v d e : Nat} (h1 : v * B ^ d ≤ e) (h2 : e < (v + 1) * B ^ d) : e / B ^ d = v := Nat.div_eq_of_lt_le h1 h2
theorem dg_range (h1 : v * B ^ d ≤ e) (h2 : e < (v + 1) * B ^ d) (hw : w < k) : dg B (k + d) e w = dg B k v w := by
  rw [dg_pre hw, rg_div h1 h2]
theorem vl_c : ∀ k, (∀ w, w < k → c w = c' w) → vl B c k = vl B c' k := by
  intro k
  induction k with
  | zero => intro h; rfl
  | succ k ih =>
    intro h
    show vl B c k * B + c k = vl B c' k * B + c' k
    rw [ih (fun w hw => h w (by omega)), h k (by omega)]
theorem dg_vl : ∀ k, (∀ w, w < k → c w < B) → ∀ w, w < k → dg B k (vl B c k) w = c w := by
  intro k
  induction k with
  | zero => intro h w hw; omega
  | succ k ih =>
    intro h w hw
    show dg B (k + 1) (vl B c k * B + c k) w = c w
    by_cases q : w = k
    · rw [q, dg_new (h k (by omega))]
    · rw [dg_child (h k (by omega)) (by omega)]
      exact ih (fun w hw => h w (by omega)) w (by omega)
theorem vl_lt : ∀ k, (∀ w, w < k → c w < B) → vl B c k < B ^ k := by
  intro k
  induction k with
  | zero => intro h; show 0 < 1; decide
  | succ k ih =>
    intro h
    have h1 := ih (fun w hw => h w (by omega))
    have h2 := h k (by omega)
    show vl B c k * B + c k < _
    rw [Nat.pow_succ]
    calc vl B c k * B + c k < vl B c k * B + B := by omega
      _ = (vl B c k + 1) * B := by rw [Nat.add_mul, Nat.one_mul]
      _ ≤ B ^ k * B := Nat.mul_le_mul_right _ h1
theorem vl_dg (hB : 0 < B) : ∀ k e, e < B ^ k → vl B (dg B k e) k = e := by
  intro k
  induction k with
  | zero => intro e h; have : e = 0 := by rw [Nat.pow_zero] at h; omega
            rw [this]; rfl
  | succ k ih =>
    intro e h
    show vl B (dg B (k + 1) e) k * B + dg B (k + 1) e k = e
    rw [dg_last, vl_c (c' := dg B k (e / B)) k (fun w hw => dg_up (by omega)), ih (e / B) (by rw [Nat.pow_succ] at h; exact Nat.div_lt_of_lt_mul (by rw [Nat.mul_comm]; exact h)), Nat.mul_comm]
    exact Nat.div_add_mod e B
theorem vl_mono : ∀ k, (∀ w, w < k → c w ≤ c' w) → vl B c k ≤ vl B c' k := by
  intro k
  induction k with
  | zero => intro h; exact Nat.le_refl _
  | succ k ih =>
    intro h
    show vl B c k * B + c k ≤ vl B c' k * B + c' k
    exact Nat.add_le_add (Nat.mul_le_mul_right _ (ih (fun w hw => h w (by omega)))) (h k (by omega))
/-- the next number: digits that are the most turn to 0 -/
theorem dg_carry (hB : 0 < B) (he : e + 1 = (e / B ^ d + 1) * B ^ d) (hlt : e / B ^ d % B + 1 < B) : (∀ w, w < k → dg B (k + 1 + d) (e + 1) w = dg B (k + 1 + d) e w) ∧ dg B (k + 1 + d) (e + 1) k = dg B (k + 1 + d) e k + 1 ∧ ∀ w, k < w → w < k + 1 + d → dg B (k + 1 + d) (e + 1) w = 0 := by
  have hP : 0 < B ^ d := Nat.pow_pos hB
  have e1 : (e + 1) / B ^ d = e / B ^ d + 1 := by rw [he, Nat.mul_div_cancel _ hP]
  generalize e / B ^ d = u at he hlt e1
  have eu : e / B ^ d = u := by
    refine rg_div ?_ (by omega)
    have : (u + 1) * B ^ d = u * B ^ d + B ^ d := by rw [Nat.add_mul, Nat.one_mul]
    omega
  have e2 : u + 1 = u / B * B + (u % B + 1) := by
    have := Nat.div_add_mod u B
    rw [Nat.mul_comm] at this
    omega
  refine ⟨fun w hw => ?_, ?_, fun w h1 h2 => ?_⟩
  · rw [dg_pre (k := k + 1) (by omega) d (e + 1), dg_pre (k := k + 1) (by omega) d e, e1, eu, dg_up (by omega), dg_up (by omega), e2, ba_div hlt]
  · rw [dg_pre (k := k + 1) (by omega) d (e + 1), dg_pre (k := k + 1) (by omega) d e, e1, eu, dg_last, dg_last, e2, ba_mod hlt]
  · rw [he]
    exact dg_low hB d _ w (by omega) h2
theorem dg_carry2 (he : e + 1 = (e / B ^ d + 1) * B ^ d) (hlt : e / B ^ d % B + 1 = B) : e + 1 = (e / B ^ (d + 1) + 1) * B ^ (d + 1) := by
  have e0 : e / B ^ (d + 1) = e / B ^ d / B := by rw [Nat.div_div_eq_div_mul, Nat.pow_succ]
  rw [e0]
  generalize e / B ^ d = u at he hlt
  have : u + 1 = (u / B + 1) * B := by
    have h := Nat.div_add_mod u B
    rw [Nat.mul_comm] at h
    rw [Nat.add_mul, Nat.one_mul]
    omega
  rw [he, this, Nat.pow_succ, Nat.mul_assoc, Nat.mul_comm B]
end DG
/-! counting over a range -/
def cR (q : Nat → Bool) (lo n : Nat) : Nat := cntN (fun i => q (lo + i)) n
def smN (g : Nat → Nat) : Nat → Nat
  | 0 => 0
  | n + 1 => smN g n + g n
theorem cntN_add (q : Nat → Bool) (a : Nat) : ∀ b, cntN q (a + b) = cntN q a + cntN (fun i => q (a + i)) b := by
  intro b
  induction b with
  | zero => rfl
  | succ b ih =>
    show cntN q (a + b) + _ = _ + (cntN _ b + _)
    rw [ih, Nat.add_assoc]
    rfl
theorem cR_sm (q : Nat → Bool) (lo L : Nat) : ∀ m, cR q lo (m * L) = smN (fun p => cR q (lo + p * L) L) m := by
  intro m
  induction m with
  | zero => rw [Nat.zero_mul]; rfl
  | succ m ih =>
    show cR q lo ((m + 1) * L) = smN _ m + cR q (lo + m * L) L
    rw [← ih, Nat.add_mul, Nat.one_mul]
    unfold cR
    rw [cntN_add]
    exact congrArg _ (cntN_c (fun i _ => by rw [Nat.add_assoc]))
theorem smN_c {g h : Nat → Nat} : ∀ n, (∀ i, i < n → g i = h i) → smN g n = smN h n := by
  intro n
  induction n with
  | zero => intro _; rfl
  | succ n ih =>
    intro e
    show smN g n + g n = smN h n + h n
    rw [ih (fun i hi => e i (by omega)), e n (by omega)]
theorem smN_k (x : Nat) : ∀ n, smN (fun _ => x) n = n * x := by
  intro n
  induction n with
  | zero => rw [Nat.zero_mul]; rfl
  | succ n ih =>
    show smN _ n + x = _
    rw [ih, Nat.add_mul, Nat.one_mul]
theorem smN_m (g : Nat → Nat) (x : Nat) : ∀ n, smN (fun i => g i * x) n = smN g n * x := by
  intro n
  induction n with
  | zero => exact (Nat.zero_mul _).symm
  | succ n ih =>
    show smN _ n + g n * x = (smN g n + g n) * x
    rw [ih, Nat.add_mul]
theorem smN_0 (g : Nat → Nat) : ∀ n, (∀ i, 0 < i → i < n → g i = 0) → 0 < n → smN g n = g 0 := by
  intro n
  induction n with
  | zero => intro _ h; omega
  | succ n ih =>
    intro h _
    show smN g n + g n = g 0
    by_cases q : 0 < n
    · rw [ih (fun i h1 h2 => h i h1 (by omega)) q, h n q (by omega), Nat.add_zero]
    · have : n = 0 := by omega
      subst this
      exact Nat.zero_add _
/-! what counts: φ sees the ways that aren't free alone -/
def zf (B Y : Nat) (fr : Nat → Bool) (e : Nat) : Bool := decide (∀ w, w < Y → fr w = true → dg B Y e w = 0)
def zd (B k : Nat) (fr : Nat → Bool) (v : Nat) : Nat := vl B (fun w => if fr w = true then 0 else dg B k v w) k
def frN (fr : Nat → Bool) (B k : Nat) : Nat → Nat
  | 0 => 1
  | d + 1 => (if fr k = true then B else 1) * frN fr B (k + 1) d
section CT
variable {B Y : Nat} {fr : Nat → Bool} {φ : (Nat → Nat) → Bool}
theorem zd_dg (hB : 0 < B) (k v w : Nat) (hw : w < k) : dg B k (zd B k fr v) w = if fr w = true then 0 else dg B k v w := by
  unfold zd
  exact dg_vl (c := fun w => if fr w = true then 0 else dg B k v w) k (fun w hw => by
    show (if fr w = true then 0 else dg B k v w) < B
    split
    · exact hB
    · exact dg_lt hB _ _ _) w hw
theorem zd_le (hB : 0 < B) {e : Nat} (he : e < B ^ Y) : zd B Y fr e ≤ e := by
  have h := vl_mono (B := B) (c := fun w => if fr w = true then 0 else dg B Y e w) (c' := dg B Y e) Y (fun w hw => by
    show (if fr w = true then 0 else dg B Y e w) ≤ _
    split <;> omega)
  rw [vl_dg hB Y e he] at h
  exact h
theorem zd_child {k v p : Nat} (hp : p < B) : zd B (k + 1) fr (v * B + p) = zd B k fr v * B + (if fr k = true then 0 else p) := by
  show vl B _ k * B + (if fr k = true then 0 else dg B (k + 1) (v * B + p) k) = _
  rw [dg_new hp, vl_c (c' := fun w => if fr w = true then 0 else dg B k v w) k (fun w hw => by rw [dg_child hp hw])]
  rfl
theorem ct_key (hB : 0 < B) (hφ : ∀ c c', (∀ w, w < Y → fr w = false → c w = c' w) → φ c = φ c') : ∀ d k v, k + d = Y → cR (fun e => φ (dg B Y e)) (v * B ^ d) (B ^ d) = cR (fun e => φ (dg B Y e) && zf B Y fr e) (zd B k fr v * B ^ d) (B ^ d) * frN fr B k d := by
  intro d
  induction d with
  | zero =>
    intro k v hk
    have : k = Y := by omega
    subst this
    have e1 : φ (dg B k v) = φ (dg B k (zd B k fr v)) := hφ _ _ (fun w hw hf => by rw [zd_dg hB _ _ _ hw, if_neg (by rw [hf]; decide)])
    have e2 : zf B k fr (zd B k fr v) = true := decide_eq_true (fun w hw hf => by rw [zd_dg hB _ _ _ hw, if_pos hf])
    show 0 + (if φ (dg B k (v * B ^ 0 + 0)) = true then 1 else 0) = (0 + (if (φ (dg B k (zd B k fr v * B ^ 0 + 0)) && zf B k fr (zd B k fr v * B ^ 0 + 0)) = true then 1 else 0)) * 1
    simp only [Nat.pow_zero, Nat.mul_one, Nat.add_zero]
    rw [e2, Bool.and_true, e1]
  | succ d ih =>
    intro k v hk
    have hb : B ^ (d + 1) = B * B ^ d := by rw [Nat.pow_succ, Nat.mul_comm]
    have key : ∀ (x p : Nat), x * (B * B ^ d) + p * B ^ d = (x * B + p) * B ^ d := fun x p => by rw [← Nat.mul_assoc, Nat.add_mul]
    rw [hb, cR_sm, cR_sm]
    simp only [key]
    rw [smN_c (h := fun p => cR (fun e => φ (dg B Y e) && zf B Y fr e) (zd B (k + 1) fr (v * B + p) * B ^ d) (B ^ d) * frN fr B (k + 1) d) B (fun p hp => ih (k + 1) (v * B + p) (by omega)), smN_m]
    show _ = _ * ((if fr k = true then B else 1) * frN fr B (k + 1) d)
    rw [← Nat.mul_assoc]
    refine congrArg (fun x => x * frN fr B (k + 1) d) ?_
    by_cases q : fr k = true
    · rw [if_pos q, smN_c (h := fun _ => cR (fun e => φ (dg B Y e) && zf B Y fr e) ((zd B k fr v * B + 0) * B ^ d) (B ^ d)) B (fun p hp => by rw [zd_child hp, if_pos q]), smN_k, Nat.mul_comm]
      refine congrArg (fun x => x * B) ?_
      refine (smN_0 (fun p => cR (fun e => φ (dg B Y e) && zf B Y fr e) ((zd B k fr v * B + p) * B ^ d) (B ^ d)) B (fun p h0 hp => ?_) hB).symm
      refine Nat.le_zero.mp (Nat.le_of_not_lt (fun hlt => ?_))
      obtain ⟨i, hi, hq⟩ := (cntN_pos _ _).mp hlt
      rw [Bool.and_eq_true] at hq
      have hz := (decide_eq_true_eq.mp hq.2) k (by omega) q
      rw [← hk, show k + (d + 1) = (k + 1) + d by omega, dg_range (v := zd B k fr v * B + p) (by omega) (by rw [Nat.add_mul _ 1, Nat.one_mul]; omega) (by omega), dg_new hp] at hz
      omega
    · rw [if_neg q, Nat.mul_one]
      exact smN_c B (fun p hp => by rw [zd_child hp, if_neg q])
theorem ct_all (hB : 0 < B) (hφ : ∀ c c', (∀ w, w < Y → fr w = false → c w = c' w) → φ c = φ c') : cntN (fun e => φ (dg B Y e)) (B ^ Y) = cntN (fun e => φ (dg B Y e) && zf B Y fr e) (B ^ Y) * frN fr B 0 Y := by
  have h := ct_key (fr := fr) hB hφ Y 0 0 (by omega)
  unfold cR at h
  rw [show zd B 0 fr 0 = 0 from rfl, Nat.zero_mul] at h
  simp only [Nat.zero_add] at h
  exact h
end CT
