/-! READINGS: what fits; what is told of those that fit -/
def rdP (S : Nat → Int32) (A : Nat → Nat) (w t : Nat) : Nat := pasN S w (nI (A t))
def rdC (S : Nat → Int32) (A c : Nat → Nat) (t w : Nat) : Nat := if c w = 0 then 0 else rdP S A w t * (ix (S (7 + (c w - 1))) * ix (S 6))
def depN (S : Nat → Int32) (A c : Nat → Nat) (t : Nat) : Nat → Nat
  | 0 => 0
  | k + 1 => depN S A c t k + rdC S A c t k
def tpS (S : Nat → Int32) (A c : Nat → Nat) (t : Nat) : Nat → Int32
  | 0 => -1
  | k + 1 => if c k = 0 then tpS S A c t k else if rdP S A k t = 0 then tpS S A c t k else S (13 + (c k - 1))
def fitB (S : Nat → Int32) (A Dp Z : Nat → Nat) (T Y : Nat) (c : Nat → Nat) : Bool := decide (∀ t, t < T → depN S A c t Y = Dp t ∧ (Z t = 255 ∨ nI (Z t) = tpS S A c t Y))
def rfB (S : Nat → Int32) (A : Nat → Nat) (T w : Nat) : Bool := decide (∀ t, t < T → rdP S A w t = 0)
def mkB (c : Nat → Nat) : Nat → Nat
  | 0 => 0
  | k + 1 => if c k = 0 then mkB c k else mkB c k ||| 2 ^ (c k - 1)
section RF
variable {S : Nat → Int32} {A Dp Z c c' : Nat → Nat} {T Y t k : Nat}
theorem depN_c : ∀ k, (∀ w, w < k → c w = c' w ∨ rdP S A w t = 0) → depN S A c t k = depN S A c' t k := by
  intro k
  induction k with
  | zero => intro h; rfl
  | succ k ih =>
    intro h
    show depN S A c t k + rdC S A c t k = depN S A c' t k + rdC S A c' t k
    rw [ih (fun w hw => h w (by omega))]
    refine congrArg _ ?_
    unfold rdC
    rcases h k (by omega) with e | e
    · rw [e]
    · rw [e, Nat.zero_mul, Nat.zero_mul, ite_self, ite_self]
theorem tpS_c : ∀ k, (∀ w, w < k → c w = c' w ∨ rdP S A w t = 0) → tpS S A c t k = tpS S A c' t k := by
  intro k
  induction k with
  | zero => intro h; rfl
  | succ k ih =>
    intro h
    show (if c k = 0 then tpS S A c t k else if rdP S A k t = 0 then tpS S A c t k else S (13 + (c k - 1))) = (if c' k = 0 then tpS S A c' t k else if rdP S A k t = 0 then tpS S A c' t k else S (13 + (c' k - 1)))
    rw [ih (fun w hw => h w (by omega))]
    rcases h k (by omega) with e | e
    · rw [e]
    · rw [if_pos e, if_pos e, ite_self, ite_self]
theorem fitB_c (h : ∀ w, w < Y → rfB S A T w = false → c w = c' w) : fitB S A Dp Z T Y c = fitB S A Dp Z T Y c' := by
  have key : ∀ t, t < T → ∀ w, w < Y → c w = c' w ∨ rdP S A w t = 0 := fun t ht w hw => by
    cases q : rfB S A T w with
    | false => exact Or.inl (h w hw q)
    | true => exact Or.inr (decide_eq_true_eq.mp q t ht)
  unfold fitB
  refine decide_eq_decide.mpr ⟨fun g t ht => ?_, fun g t ht => ?_⟩
  · rw [← depN_c Y (key t ht), ← tpS_c Y (key t ht)]; exact g t ht
  · rw [depN_c Y (key t ht), tpS_c Y (key t ht)]; exact g t ht
theorem mkB_c : ∀ k, (∀ w, w < k → c w = c' w) → mkB c k = mkB c' k := by
  intro k
  induction k with
  | zero => intro h; rfl
  | succ k ih =>
    intro h
    show (if c k = 0 then mkB c k else mkB c k ||| 2 ^ (c k - 1)) = (if c' k = 0 then mkB c' k else mkB c' k ||| 2 ^ (c' k - 1))
    rw [ih (fun w hw => h w (by omega)), h k (by omega)]
theorem mkB_lt : ∀ k, (∀ w, w < k → c w < 7) → mkB c k < 64 := by
  intro k
  induction k with
  | zero => intro h; show 0 < 64; decide
  | succ k ih =>
    intro h
    show (if c k = 0 then mkB c k else mkB c k ||| 2 ^ (c k - 1)) < 64
    have h1 := ih (fun w hw => h w (by omega))
    have h2 := h k (by omega)
    split
    · exact h1
    · exact Nat.or_lt_two_pow (n := 6) h1 (Nat.pow_lt_pow_right (by decide) (by omega))
theorem mkB_sub : ∀ k, (∀ w, w < k → c w = 0 ∨ c w = c' w) → mkB c k ||| mkB c' k = mkB c' k := by
  intro k
  induction k with
  | zero => intro h; show (0 : Nat) ||| 0 = 0; decide
  | succ k ih =>
    intro h
    have h1 := ih (fun w hw => h w (by omega))
    show (if c k = 0 then mkB c k else mkB c k ||| 2 ^ (c k - 1)) ||| (if c' k = 0 then mkB c' k else mkB c' k ||| 2 ^ (c' k - 1)) = (if c' k = 0 then mkB c' k else mkB c' k ||| 2 ^ (c' k - 1))
    by_cases q : c k = 0
    · rw [if_pos q]
      by_cases q' : c' k = 0
      · rw [if_pos q']; exact h1
      · rw [if_neg q', ← Nat.or_assoc, h1]
    · have e : c k = c' k := by rcases h k (by omega) with y | y; exact absurd y q; exact y
      rw [← e, if_neg q, if_neg q]
      calc (mkB c k ||| 2 ^ (c k - 1)) ||| (mkB c' k ||| 2 ^ (c k - 1)) = (mkB c k ||| mkB c' k) ||| (2 ^ (c k - 1) ||| 2 ^ (c k - 1)) := by
            rw [Nat.or_assoc, Nat.or_assoc, ← Nat.or_assoc (2 ^ (c k - 1)), Nat.or_comm (2 ^ (c k - 1)) (mkB c' k), Nat.or_assoc]
        _ = _ := by rw [h1, Nat.or_self]
theorem pc_mono : ∀ a, a < 64 → ∀ b, b < 64 → a ||| b = b → pcN a ≤ pcN b := by decide +kernel
end RF
/-- what is told of the numbers below E that q lets pass -/
def RST (q : Nat → Bool) (d : Nat → Nat → Nat) (pp : Nat → Nat) (Y E n : Nat) (fi al : Nat → Int32) (fe : Nat) : Prop :=
  n = cntN q E ∧ (0 < n → (∃ e, e < E ∧ q e = true ∧ pp e = fe) ∧ (∀ e, e < E → q e = true → fe ≤ pp e) ∧ ∃ e0, e0 < E ∧ q e0 = true ∧ (∀ e, e < e0 → q e = false) ∧ ∀ w, w < Y → fi w = nI (d e0 w) - 1 ∧ ((∀ e, e < E → q e = true → d e w = d e0 w) → al w = nI (d e0 w) - 1) ∧ (¬ (∀ e, e < E → q e = true → d e w = d e0 w) → al w = -2))
section RS
variable {q : Nat → Bool} {d : Nat → Nat → Nat} {pp : Nat → Nat} {Y E E' n fe fe' : Nat} {fi al fi' al' : Nat → Int32}
theorem RST.zero : RST q d pp Y 0 0 fi al fe := ⟨rfl, fun h => by omega⟩
theorem cntN_skip (hE : E ≤ E') (h : ∀ e, E ≤ e → e < E' → q e = false) : cntN q E' = cntN q E := by
  obtain ⟨m, rfl⟩ : ∃ m, E' = E + m := ⟨E' - E, by omega⟩
  clear hE
  induction m with
  | zero => rfl
  | succ m ih =>
    show cntN q (E + m) + (if q (E + m) = true then 1 else 0) = _
    rw [if_neg (by rw [h (E + m) (by omega) (by omega)]; decide), Nat.add_zero]
    exact ih (fun e h1 h2 => h e h1 (by omega))
theorem RST.skip (h : RST q d pp Y E n fi al fe) (hE : E ≤ E') (hq : ∀ e, E ≤ e → e < E' → q e = false) : RST q d pp Y E' n fi al fe := by
  have key : ∀ e, e < E' → q e = true → e < E := fun e h1 h2 => by
    by_cases y : e < E
    · exact y
    · rw [hq e (by omega) h1] at h2; cases h2
  obtain ⟨h1, h2⟩ := h
  refine ⟨by rw [cntN_skip hE hq]; exact h1, fun hn => ?_⟩
  obtain ⟨⟨e1, g1, g2, g3⟩, g4, e0, g5, g6, g7, g8⟩ := h2 hn
  refine ⟨⟨e1, by omega, g2, g3⟩, fun e he hqe => g4 e (key e he hqe) hqe, e0, by omega, g6, g7, fun w hw => ?_⟩
  obtain ⟨k1, k2, k3⟩ := g8 w hw
  exact ⟨k1, fun z => k2 (fun e he hqe => z e (by omega) hqe), fun z => k3 (fun z2 => z (fun e he hqe => z2 e (key e he hqe) hqe))⟩
theorem RST.hit (h : RST q d pp Y E n fi al fe) (hq : q E = true) (hd : ∀ e w, d e w < 7) (hfi : ∀ w, w < Y → fi' w = if n = 0 then nI (d E w) - 1 else fi w) (hal : ∀ w, w < Y → al' w = if n = 0 then nI (d E w) - 1 else if al w = nI (d E w) - 1 then al w else -2) (hfe : fe' = if n = 0 then pp E else if pp E < fe then pp E else fe) : RST q d pp Y (E + 1) (n + 1) fi' al' fe' := by
  obtain ⟨h1, h2⟩ := h
  have hc : cntN q (E + 1) = n + 1 := by
    show cntN q E + (if q E = true then 1 else 0) = n + 1
    rw [if_pos hq, h1]
  refine ⟨hc.symm, fun _ => ?_⟩
  by_cases n0 : n = 0
  · have hno : ∀ e, e < E → q e = false := fun e he => by
      cases y : q e with
      | false => rfl
      | true => have := (cntN_pos q E).mpr ⟨e, he, y⟩; omega
    have key : ∀ e, e < E + 1 → q e = true → e = E := fun e he hqe => by
      by_cases y : e < E
      · rw [hno e y] at hqe; cases hqe
      · omega
    rw [if_pos n0] at hfe
    refine ⟨⟨E, by omega, hq, hfe.symm⟩, fun e he hqe => by rw [key e he hqe, hfe]; exact Nat.le_refl _, E, by omega, hq, hno, fun w hw => ⟨by rw [hfi w hw, if_pos n0], fun _ => by rw [hal w hw, if_pos n0], fun z => absurd (fun e he hqe => by rw [key e he hqe]) z⟩⟩
  · obtain ⟨⟨e1, g1, g2, g3⟩, g4, e0, g5, g6, g7, g8⟩ := h2 (by omega)
    rw [if_neg n0] at hfe
    refine ⟨?_, fun e he hqe => ?_, e0, by omega, g6, g7, fun w hw => ?_⟩
    · by_cases y : pp E < fe
      · rw [if_pos y] at hfe
        exact ⟨E, by omega, hq, hfe.symm⟩
      · rw [if_neg y] at hfe
        exact ⟨e1, by omega, g2, by rw [hfe]; exact g3⟩
    · rw [hfe]
      by_cases y : e < E
      · have := g4 e y hqe
        split <;> omega
      · have : e = E := by omega
        subst this
        split <;> omega
    · obtain ⟨k1, k2, k3⟩ := g8 w hw
      have hw1 := hal w hw
      rw [if_neg n0] at hw1
      refine ⟨by rw [hfi w hw, if_neg n0]; exact k1, fun z => ?_, fun z => ?_⟩
      · have z1 := k2 (fun e he hqe => z e (by omega) hqe)
        have z2 := z E (by omega) hq
        rw [hw1, if_pos (by rw [z1, z2]), z1]
      · rw [hw1]
        by_cases y : ∀ e, e < E → q e = true → d e w = d e0 w
        · have z1 := k2 y
          have z2 : ¬ d E w = d e0 w := fun z2 => z (fun e he hqe => by
            by_cases y2 : e < E
            · exact y e y2 hqe
            · have : e = E := by omega
              rw [this]; exact z2)
          rw [if_neg]
          intro z3
          rw [z1] at z3
          have b1 := hd E w
          have b2 := hd e0 w
          have : ∀ a, a < 7 → ∀ b, b < 7 → nI a - 1 = nI b - 1 → a = b := by decide
          exact z2 (this _ b2 _ b1 z3).symm
        · rw [k3 y, if_neg]
          have : ∀ a, a < 7 → ¬ -2 = nI a - 1 := by decide
          exact this _ (hd E w)
end RS
/-- both sides' ends: the class has looked at those with nobody on what is free alone -/
theorem rd_fin {B Y : Nat} {fr : Nat → Bool} {φ : (Nat → Nat) → Bool} {n n' fe fe' : Nat} {fi al fi' al' : Nat → Int32} (hB : 0 < B) (hB7 : B ≤ 7) (hφ : ∀ c c', (∀ w, w < Y → fr w = false → c w = c' w) → φ c = φ c')
    (hx : RST (fun e => φ (dg B Y e) && zf B Y fr e) (dg B Y) (fun e => pcN (mkB (dg B Y e) Y)) Y (B ^ Y) n fi al fe) (hy : RST (fun e => φ (dg B Y e)) (dg B Y) (fun e => pcN (mkB (dg B Y e) Y)) Y (B ^ Y) n' fi' al' fe') :
    n' = n * frN fr B 0 Y ∧ (0 < n → 0 < n' ∧ fe' = fe ∧ ∀ w, w < Y → fi' w = fi w ∧ al' w = if fr w = true ∧ 1 < B then -2 else al w) := by
  obtain ⟨x1, x2⟩ := hx
  obtain ⟨y1, y2⟩ := hy
  dsimp only at x2 y2
  have hn : n' = n * frN fr B 0 Y := by rw [y1, x1]; exact ct_all hB hφ
  have hfr : ∀ d k, 0 < frN fr B k d := by
    intro d
    induction d with
    | zero => intro k; exact Nat.one_pos
    | succ d ih =>
      intro k
      show 0 < (if fr k = true then B else 1) * frN fr B (k + 1) d
      refine Nat.mul_pos ?_ (ih _)
      split
      · exact hB
      · decide
  refine ⟨hn, fun h0 => ?_⟩
  have h0' : 0 < n' := by rw [hn]; exact Nat.mul_pos h0 (hfr _ _)
  obtain ⟨⟨xe, a1, a2, a3⟩, a4, x0, a5, a6, a7, a8⟩ := x2 h0
  obtain ⟨⟨ye, b1, b2, b3⟩, b4, y0, b5, b6, b7, b8⟩ := y2 h0'
  have zq : ∀ e, e < B ^ Y → φ (dg B Y e) = true → (φ (dg B Y (zd B Y fr e)) && zf B Y fr (zd B Y fr e)) = true := fun e he hq => by
    rw [Bool.and_eq_true]
    refine ⟨?_, decide_eq_true (fun w hw hf => by rw [zd_dg hB _ _ _ hw, if_pos hf])⟩
    rw [← hq]
    exact hφ _ _ (fun w hw hf => by rw [zd_dg hB _ _ _ hw, if_neg (by rw [hf]; decide)])
  have zl : ∀ e, e < B ^ Y → zd B Y fr e ≤ e := fun e he => zd_le hB he
  rw [Bool.and_eq_true] at a2 a6
  have e00 : y0 = x0 := by
    have q1 : ¬ x0 < y0 := fun z => by rw [b7 x0 z] at a6; cases a6.1
    have z1 := zq y0 b5 b6
    have z2 := zl y0 b5
    have q2 : ¬ zd B Y fr y0 < x0 := fun z => by rw [a7 _ z] at z1; cases z1
    have q3 : ¬ zd B Y fr y0 < y0 := fun z => by
      rw [Bool.and_eq_true] at z1
      rw [b7 _ z] at z1
      cases z1.1
    omega
  subst e00
  have d7 : ∀ e w, dg B Y e w < 7 := fun e w => Nat.lt_of_lt_of_le (dg_lt hB _ _ _) hB7
  refine ⟨h0', ?_, fun w hw => ?_⟩
  · have q1 := b4 xe a1 a2.1
    have z1 := zq ye b1 b2
    have z2 := zl ye b1
    have q2 := a4 (zd B Y fr ye) (by omega) z1
    have q3 : pcN (mkB (dg B Y (zd B Y fr ye)) Y) ≤ pcN (mkB (dg B Y ye) Y) := by
      refine pc_mono _ (mkB_lt Y (fun w _ => d7 _ w)) _ (mkB_lt Y (fun w _ => d7 _ w)) (mkB_sub Y (fun w hw => ?_))
      rw [zd_dg hB _ _ _ hw]
      by_cases y : fr w = true
      · rw [if_pos y]; exact Or.inl rfl
      · rw [if_neg y]; exact Or.inr rfl
    omega
  · obtain ⟨k1, k2, k3⟩ := a8 w hw
    obtain ⟨m1, m2, m3⟩ := b8 w hw
    refine ⟨by rw [m1, k1], ?_⟩
    by_cases hf : fr w = true ∧ 1 < B
    · rw [if_pos hf]
      refine m3 (fun z => ?_)
      have hz : dg B Y y0 w = 0 := (decide_eq_true_eq.mp a6.2) w hw hf.1
      have hc : ∀ x, x < Y → (fun x => if x = w then 1 else dg B Y y0 x) x < B := fun x _ => by
        show (if x = w then 1 else dg B Y y0 x) < B
        split
        · exact hf.2
        · exact dg_lt hB _ _ _
      have hdg := dg_vl (B := B) (c := fun x => if x = w then 1 else dg B Y y0 x) Y hc
      have hlt := vl_lt (B := B) (c := fun x => if x = w then 1 else dg B Y y0 x) Y hc
      generalize vl B (fun x => if x = w then 1 else dg B Y y0 x) Y = e1 at hdg hlt
      have hq1 : φ (dg B Y e1) = true := by
        rw [← b6]
        refine hφ _ _ (fun x hx hfx => ?_)
        rw [hdg x hx]
        show (if x = w then 1 else dg B Y y0 x) = _
        rw [if_neg]
        intro y
        rw [y, hf.1] at hfx
        cases hfx
      have := z e1 hlt hq1
      rw [hdg w hw, hz] at this
      rw [if_pos rfl] at this
      cases this
    · rw [if_neg hf]
      have same : ∀ e, e < B ^ Y → dg B Y (zd B Y fr e) w = dg B Y e w := fun e he => by
        rw [zd_dg hB _ _ _ hw]
        by_cases y : fr w = true
        · have := dg_lt hB Y e w
          rw [if_pos y]
          have : ¬ 1 < B := fun z => hf ⟨y, z⟩
          omega
        · rw [if_neg y]
      by_cases y : ∀ e, e < B ^ Y → φ (dg B Y e) = true → dg B Y e w = dg B Y y0 w
      · rw [m2 y, k2 (fun e he hq => by rw [Bool.and_eq_true] at hq; exact y e he hq.1)]
      · rw [m3 y, k3 (fun z => y (fun e he hq => by
          have := z (zd B Y fr e) (Nat.lt_of_le_of_lt (zl e he) he) (zq e he hq)
          rw [← same e he]; exact this))]
