/-! person, tuft, count -/
def perS (S : Nat → Int32) (k q : Nat) : Int32 := match q with
  | 0 => S (7 + k)
  | 1 => S (13 + k)
  | 2 => S (19 + k)
  | 3 => sm 144 (fun t => lsS S t k)
  | 4 => sm 144 (fun t => bi (decide (0 < lsS S t k)))
  | _ => S (430 + k)
/-- measured: the number itself at 5 -/
def meaS (S : Nat → Int32) (k q : Nat) : Int32 := if q < 5 then perS S k q else nI k
def tufS (S : Nat → Int32) (t q : Nat) : Int32 := match q with
  | 0 => depS S t
  | 1 => sm 6 (fun k => lsS S t k)
  | 2 => S (436 + 4 * t) - 1
  | 3 => if lyS S t = true then S (437 + 4 * t) else -1
  | 4 => if lyS S t = true then S (438 + 4 * t) else -1
  | 5 => if lyS S t = true then S 429 - S (439 + 4 * t) else -1
  | 6 => S (25 + t)
  | _ => bi (isD S (nI t))
def couS (S : Nat → Int32) (len what : Int32) : Int32 := if what = 7 then S 429 else if what = 8 then len else if 0 ≤ what ∧ what ≤ 6 then S (ix what) else -1
theorem swt_in {β : Type} {f : Nat → Option β} {g : Option β} {j n : Nat} (h : j < n) (hn : n < 2147483648) : swt (nI j) f g n = f j := by
  unfold swt
  rw [ix_nI (by omega), if_pos ⟨n0le (by omega), h⟩]
theorem swt_out {β : Type} {f : Nat → Option β} {g : Option β} {j n : Nat} (h : n ≤ j) (hj : j < 2147483648) : swt (nI j) f g n = g := by
  unfold swt
  rw [ix_nI (by omega), if_neg (fun q => by have := q.2; omega)]
section CX
variable {S : Nat → Int32} {w : Wd} {o h r : Nat}
theorem WF.p6 (hF : WF S) {k : Nat} (hk : k < ix (S 2)) : k < 6 := by
  obtain ⟨Y, eY, hY⟩ := hF.2.1
  rw [eY, ix_nI (by omega)] at hk
  omega
theorem isK_of (hF : WF S) {k : Nat} (hk : k < ix (S 2)) : isK S 2 (nI k) = true := by
  have := hF.p6 hk
  obtain ⟨Y, eY, hY⟩ := hF.2.1
  rw [isK_nI (by omega) eY (by omega)]
  rw [eY, ix_nI (by omega)] at hk
  exact decide_eq_true hk
theorem at_in (hF : WF S) {k : Nat} (hk : k < ix (S 2)) (q : Nat) (d : Int32) : atK S 2 q d (nI k) = S (q + k) := by
  have := hF.p6 hk
  unfold atK
  rw [isK_of hF hk, if_pos rfl, ix_nI (by omega)]
theorem n_eq {a b : Nat} (ha : a < 2147483648) (hb : b < 2147483648) (h : ¬ a = b) : ¬ nI a = (OfNat.ofNat b : Int32) := n_ne h ha hb
theorem n_eqt {a b : Nat} (h : a = b) : nI a = (OfNat.ofNat b : Int32) := by subst h; rfl
theorem x_measure (hF : WF S) (hR : HR S w h) (hr : RR S w r) {k q : Nat} (hk : k < ix (S 2)) (hq : q < 6) : sh_172 h r (nI k) (nI q) w = some (meaS S k q, w) := by
  have hk6 := hF.p6 hk
  unfold sh_172
  have : q = 0 ∨ q = 1 ∨ q = 2 ∨ q = 3 ∨ q = 4 ∨ q = 5 := by omega
  rcases this with e | e | e | e | e | e <;> subst e
  · rw [if_pos (show nI 0 = 0 from rfl), cl_e (x_weightOf hF hR _), at_in hF hk]; rfl
  · rw [if_neg (by decide), if_pos (show nI 1 = 1 from rfl), cl_e (x_soleOf hF hR _), at_in hF hk]; rfl
  · rw [if_neg (by decide), if_neg (by decide), if_pos (show nI 2 = 2 from rfl), cl_e (x_paceOf hF hR _), at_in hF hk]; rfl
  · rw [if_neg (by decide), if_neg (by decide), if_neg (by decide), if_pos (show nI 3 = 3 from rfl), cl_e (x_printsBy hr hk6)]; rfl
  · rw [if_neg (by decide), if_neg (by decide), if_neg (by decide), if_neg (by decide), if_pos (show nI 4 = 4 from rfl), cl_e (x_tuftsTrodBy hr hk6)]; rfl
  · rw [if_neg (by decide), if_neg (by decide), if_neg (by decide), if_neg (by decide), if_neg (by decide)]; rfl
theorem x_person (h : XS S w) {k q : Nat} (hk : k < ix (S 2)) (hq : q < 6) : sh_180 0 (nI k) (nI q) w = some (perS S k q, w) := by
  obtain ⟨hF, hW, hr, a, ha, hR⟩ := h
  have hk6 := hF.p6 hk
  unfold sh_180
  rw [der_e ha, cl_e (x_isPerson hF hR _), if_pos (isK_of hF hk), if_pos (n0le (by omega)), if_neg (jnl' (n := q) (a := 5) (by omega) (by decide))]
  by_cases e : q = 5
  · subst e
    rw [if_pos (show nI 5 = 5 from rfl), Nat.zero_add, cl_e (x_walksOf hr hk6)]; rfl
  · rw [if_neg (n_eq (by omega) (by decide) e), der_e ha, Nat.zero_add, cl_e (x_measure hF hR hr hk hq)]
    unfold meaS
    rw [if_pos (by omega)]
theorem y_throwsIf (b : Bool) : sh_212 o b w = some (b, sI w o 0 (bi b)) := by
  unfold sh_212
  cases b <;> rfl
/-- both sides told before a throw -/
theorem y_ok2 {α : Type} {lo : Int32} {hi p : Int32} {c : Bool} {w : Wd} (J : Bool → Wd → Option (α × Wd)) : jn J (fun j3 => jn (fun (_ : Unit) (w34 : Wd) => j3 true w34) (fun j33 => if c = true then (cl (sh_199 p lo hi w) (fun r37 w36 => if r37 = true then (j3 false w36) else (j33 () w36))) else (j33 () w))) = J (!(c && (decide (lo ≤ p) && decide (p ≤ hi)))) w := by
  show (if c = true then cl (sh_199 p lo hi w) (fun r37 w36 => if r37 = true then J false w36 else J true w36) else J true w) = _
  cases c with
  | false => rfl
  | true =>
    rw [if_pos rfl, cl_e (y_isIn p lo hi w), Bool.true_and]
    cases decide (lo ≤ p) && decide (p ≤ hi) <;> rfl
def okP (S : Nat → Int32) (p what : Int32) : Bool := isK S 2 p && (decide (0 ≤ what) && decide (what ≤ 5))
def okT (S : Nat → Int32) (t what : Int32) : Bool := isT S t && (decide (0 ≤ what) && decide (what ≤ 7))
theorem okP_t {p what : Int32} (hF : WF S) (h : okP S p what = true) : ∃ k q, p = nI k ∧ what = nI q ∧ k < ix (S 2) ∧ q < 6 := by
  unfold okP at h
  rw [Bool.and_eq_true, Bool.and_eq_true, decide_eq_true_eq, decide_eq_true_eq] at h
  obtain ⟨k, e, hk, hkp⟩ := isK_t h.1
  obtain ⟨q, hq, e2⟩ := nI_ex h.2.1
  refine ⟨k, q, e, e2, hkp, ?_⟩
  have h3 := h.2.2
  rw [e2, i_le, i_nI hq] at h3
  have : (q : Int) ≤ 5 := h3
  omega
theorem okT_t {t what : Int32} (hF : WF S) (h : okT S t what = true) : ∃ k q, t = nI k ∧ what = nI q ∧ k < 144 ∧ onR S k ∧ q < 8 := by
  unfold okT at h
  rw [Bool.and_eq_true, Bool.and_eq_true, decide_eq_true_eq, decide_eq_true_eq] at h
  obtain ⟨k, e, hk, ho⟩ := isT_t hF h.1
  obtain ⟨q, hq, e2⟩ := nI_ex h.2.1
  refine ⟨k, q, e, e2, hk, ho, ?_⟩
  have h3 := h.2.2
  rw [e2, i_le, i_nI hq] at h3
  have : (q : Int) ≤ 7 := h3
  omega
theorem y_person (hF : WF S) (hS : wI w (o + 2) = S) {k q : Nat} (hk : k < ix (S 2)) (hq : q < 6) : sh_210 o (nI k) (nI q) w = some (perS S k q, sI w o 0 0) := by
  have hk6 := hF.p6 hk
  have hS1 : wI (sI w o 0 0) (o + 2) = S := by rw [wI_row (by omega)]; exact hS
  unfold sh_210
  rw [cl_e (y_isPerson hF hS _), isK_of hF hk, y_ok2, show (decide ((0 : Int32) ≤ nI q) && decide (nI q ≤ 5)) = true by rw [decide_eq_true (n0le (by omega)), decide_eq_true (jle (j := q) (n := 5) (by omega) (by decide))]; rfl]
  show cl (sh_212 o false w) _ = _
  rw [cl_e (y_throwsIf false), if_neg Bool.false_ne_true, show bi false = 0 from rfl]
  refine itM_seq (fun j => (sm j (fun t => lsS S t k), sm j (fun t => bi (decide (0 < lsS S t k))), nI j)) (fun _ => sI w o 0 0) 144 (fun j hj => ?_) ?_ rfl rfl (by decide)
  · show (if nI j < 144 then _ else _) = _
    rw [if_pos (jl hj (by decide)), cl_e (y_liesOf hS1 hj hk6)]
    simp only [lt_s_, nI_s, sm, ite_b]
  · show (if nI 144 < 144 then _ else _) = _
    rw [if_neg (by decide)]
    by_cases h5 : q < 5
    · rw [swt_in h5 (by decide), hS1]
      have : q = 0 ∨ q = 1 ∨ q = 2 ∨ q = 3 ∨ q = 4 := by omega
      rcases this with e | e | e | e | e <;> subst e
      · rw [if_pos rfl, l7, nI_p, gd_nI (by omega) (by decide), ix_nI (by omega)]; rfl
      · rw [if_neg (by decide), if_pos rfl, l13, nI_p, gd_nI (by omega) (by decide), ix_nI (by omega)]; rfl
      · rw [if_neg (by decide), if_neg (by decide), if_pos rfl, l19, nI_p, gd_nI (by omega) (by decide), ix_nI (by omega)]; rfl
      · rfl
      · rfl
    · have e : q = 5 := by omega
      subst e
      rw [swt_out (by omega) (by decide), hS1, l430, nI_p, gd_nI (by omega) (by decide), ix_nI (by omega)]; rfl
theorem y_personAll (hF : WF S) (hS : wI w (o + 2) = S) (p what : Int32) : ∃ v, sh_210 o p what w = some (v, sI w o 0 (bi (!okP S p what))) ∧ ∀ k q, p = nI k → what = nI q → k < ix (S 2) → q < 6 → v = perS S k q := by
  by_cases h : okP S p what = true
  · obtain ⟨k, q, e1, e2, hk, hq⟩ := okP_t hF h
    subst e1; subst e2
    refine ⟨_, by rw [h]; exact y_person hF hS hk hq, fun k' q' e1 e2 hk' hq' => ?_⟩
    have h1 := hF.p6 hk
    have h2 := hF.p6 hk'
    rw [nI_eq (by omega) (by omega)] at e1 e2
    rw [e1, e2]
  · have h' : okP S p what = false := by simpa using h
    refine ⟨0, ?_, fun k q e1 e2 hk hq => ?_⟩
    · unfold sh_210
      rw [cl_e (y_isPerson hF hS _), y_ok2]
      show cl (sh_212 o (!okP S p what) w) _ = _
      rw [h', cl_e (y_throwsIf _)]
      rfl
    · subst e1; subst e2
      exact absurd (show okP S (nI k) (nI q) = true by unfold okP; rw [isK_of hF hk, decide_eq_true (n0le (by omega)), decide_eq_true (jle (j := q) (n := 5) (by omega) (by decide))]; rfl) h
theorem bi_wall (hF : WF S) {t : Nat} (ht : t < 144) : bi (isWl S (nI t)) = S (25 + t) := by
  unfold isWl
  rw [decide_eq_true (n0le (by omega)), decide_eq_true (jl ht (by decide)), ix_nI (by omega)]
  rcases hF.2.2.2.2.2.2.2.1 t ht with q | q <;> rw [q] <;> rfl
theorem x_onTop (hr : RR S w r) {t q : Nat} (ht : t < 144) (h2 : 2 ≤ q) (h5 : q ≤ 5) : sh_183 r (nI t) (nI q) w = some (tufS S t q, w) := by
  unfold sh_183
  rw [cl_e (x_lies hr ht)]
  have hq : q = 2 ∨ q = 3 ∨ q = 4 ∨ q = 5 := by omega
  rcases hr.2.2.2.2 t ht with ⟨g1, g2⟩ | ⟨p, hp, g1, g2, g3, g4, g5⟩
  · have e : lyS S t = false := by unfold lyS; rw [g1]; rfl
    rw [e, if_neg (by decide)]
    rcases hq with q | q | q | q <;> subst q <;> unfold tufS
    · rw [g1]; rfl
    all_goals (rw [e]; rfl)
  · have e : lyS S t = true := by unfold lyS; rw [g1]; exact decide_eq_true (jp (by omega) (by omega))
    rw [e, if_pos rfl]
    rcases hq with q | q | q | q <;> subst q <;> unfold tufS
    · rw [if_pos (show nI 2 = 2 from rfl), gd_nI ht (by decide), ix_nI (by omega), g2, g1, nI_pred]; rfl
    · rw [if_neg (by decide), if_pos (show nI 3 = 3 from rfl), gd_nI ht (by decide), ix_nI (by omega), g3, if_pos e]; rfl
    · rw [if_neg (by decide), if_neg (by decide), if_pos (show nI 4 = 4 from rfl), gd_nI ht (by decide), ix_nI (by omega), g4]; exact (congrArg (fun x => some (x, w)) (if_pos e)).symm
    · rw [if_neg (by decide), if_neg (by decide), if_neg (by decide), gd_nI ht (by decide), ix_nI (by omega), g5, hr.1]; exact (congrArg (fun x => some (x, w)) (if_pos e)).symm
theorem x_tuft (h : XS S w) {t q : Nat} (ht : t < 144) (ho : onR S t) (hq : q < 8) : sh_181 0 (nI t) (nI q) w = some (tufS S t q, w) := by
  obtain ⟨hF, hW, hr, a, ha, hR⟩ := h
  have hT : isT S (nI t) = true := by rw [isT_nI hF (by omega)]; exact decide_eq_true ho
  unfold sh_181
  rw [der_e ha, cl_e (x_onRug hF hR _), if_pos hT, if_pos (n0le (by omega)), if_neg (jnl' (n := q) (a := 7) (by omega) (by decide))]
  have : q = 0 ∨ q = 1 ∨ q = 6 ∨ q = 7 ∨ (2 ≤ q ∧ q ≤ 5) := by omega
  rcases this with e | e | e | e | ⟨h2, h5⟩
  · subst e
    rw [if_pos (show nI 0 = 0 from rfl), der_e ha, Nat.zero_add, cl_e (x_depthOn hF hW hR hr ht)]; rfl
  · subst e
    rw [if_neg (by decide), if_pos (show nI 1 = 1 from rfl), Nat.zero_add, cl_e (x_printsOn hr ht)]; rfl
  · subst e
    rw [if_neg (by decide), if_neg (by decide), if_pos (show nI 6 = 6 from rfl), der_e ha, cl_e (x_isWall hF hR _)]
    show some (bi (if isWl S (nI t) = true then true else false), w) = _
    rw [show (if isWl S (nI t) = true then true else false) = isWl S (nI t) by cases isWl S (nI t) <;> rfl, bi_wall hF ht]; rfl
  · subst e
    rw [if_neg (by decide), if_neg (by decide), if_neg (by decide), if_pos (show nI 7 = 7 from rfl), der_e ha, cl_e (x_isDoor hF hR _)]
    show some (bi (if isD S (nI t) = true then true else false), w) = some (bi (isD S (nI t)), w)
    cases isD S (nI t) <;> rfl
  · rw [if_neg (n_eq (b := 0) (by omega) (by decide) (by omega)), if_neg (n_eq (b := 1) (by omega) (by decide) (by omega)), if_neg (n_eq (b := 6) (by omega) (by decide) (by omega)), if_neg (n_eq (b := 7) (by omega) (by decide) (by omega)), Nat.zero_add, cl_e (x_onTop hr ht h2 h5)]
theorem y_tuft (hF : WF S) (hW : WR S) (hS : wI w (o + 2) = S) {t q : Nat} (ht : t < 144) (ho : onR S t) (hq : q < 8) : sh_215 o (nI t) (nI q) w = some (tufS S t q, sI w o 0 0) := by
  have hT : isT S (nI t) = true := by rw [isT_nI hF (by omega)]; exact decide_eq_true ho
  have hS1 : wI (sI w o 0 0) (o + 2) = S := by rw [wI_row (by omega)]; exact hS
  unfold sh_215
  rw [cl_e (y_isTuft hS _), hT, y_ok2, show (decide ((0 : Int32) ≤ nI q) && decide (nI q ≤ 7)) = true by rw [decide_eq_true (n0le (by omega)), decide_eq_true (jle (j := q) (n := 7) (by omega) (by decide))]; rfl]
  show cl (sh_212 o false w) _ = _
  rw [cl_e (y_throwsIf false), if_neg Bool.false_ne_true, show bi false = 0 from rfl, lt_s_, l436, l4, nI_m, nI_p, gd_nI (by omega) (by decide), ix_nI (by omega), hS1, lt_s_, ite_b]
  have hl : decide (0 < S (436 + 4 * t)) = lyS S t := rfl
  rw [hl]
  by_cases h7 : q < 7
  · rw [swt_in h7 (by decide)]
    have : q = 0 ∨ q = 1 ∨ q = 2 ∨ q = 3 ∨ q = 4 ∨ q = 5 ∨ q = 6 := by omega
    rcases this with e | e | e | e | e | e | e <;> subst e
    · rw [if_pos rfl, cl_e (y_depth hF hW hS1 ht)]; rfl
    · rw [if_neg (by decide), if_pos rfl, cl_e (y_treads hF hW hS1 ht)]; rfl
    · rw [if_neg (by decide), if_neg (by decide), if_pos rfl, gd_nI (by omega) (by decide)]; rfl
    · rw [if_neg (by decide), if_neg (by decide), if_neg (by decide), if_pos rfl, l1, nI_p, gd_nI (by omega) (by decide), ix_nI (by omega), show 436 + 4 * t + 1 = 437 + 4 * t by omega]
      show _ = some (if lyS S t = true then S (437 + 4 * t) else -1, _)
      cases lyS S t <;> rfl
    · rw [if_neg (by decide), if_neg (by decide), if_neg (by decide), if_neg (by decide), if_pos rfl, l2, nI_p, gd_nI (by omega) (by decide), ix_nI (by omega), show 436 + 4 * t + 2 = 438 + 4 * t by omega]
      show _ = some (if lyS S t = true then S (438 + 4 * t) else -1, _)
      cases lyS S t <;> rfl
    · rw [if_neg (by decide), if_neg (by decide), if_neg (by decide), if_neg (by decide), if_neg (by decide), if_pos rfl, l3, nI_p, gd_l (by decide) (by decide), gd_nI (by omega) (by decide), ix_nI (by omega), ix_429, show 436 + 4 * t + 3 = 439 + 4 * t by omega]
      show _ = some (if lyS S t = true then S 429 - S (439 + 4 * t) else -1, _)
      cases lyS S t <;> rfl
    · rw [if_neg (by decide), if_neg (by decide), if_neg (by decide), if_neg (by decide), if_neg (by decide), if_neg (by decide), l25, nI_p, gd_nI (by omega) (by decide), ix_nI (by omega)]; rfl
  · have e : q = 7 := by omega
    subst e
    rw [swt_out (by omega) (by decide), cl_e (y_isDoor hF hS1 _)]
    show some (bi (if isD S (nI t) = true then true else false), _) = some (bi (isD S (nI t)), _)
    cases isD S (nI t) <;> rfl
theorem y_tuftAll (hF : WF S) (hW : WR S) (hS : wI w (o + 2) = S) (p what : Int32) : ∃ v, sh_215 o p what w = some (v, sI w o 0 (bi (!okT S p what))) ∧ ∀ k q, p = nI k → what = nI q → k < 144 → onR S k → q < 8 → v = tufS S k q := by
  by_cases h : okT S p what = true
  · obtain ⟨k, q, e1, e2, hk, ho, hq⟩ := okT_t hF h
    subst e1; subst e2
    refine ⟨_, by rw [h]; exact y_tuft hF hW hS hk ho hq, fun k' q' e1 e2 hk' _ hq' => ?_⟩
    rw [nI_eq (by omega) (by omega)] at e1 e2
    rw [e1, e2]
  · have h' : okT S p what = false := by simpa using h
    refine ⟨0, ?_, fun k q e1 e2 hk ho hq => ?_⟩
    · unfold sh_215
      rw [cl_e (y_isTuft hS _), y_ok2]
      show cl (sh_212 o (!okT S p what) w) _ = _
      rw [h', cl_e (y_throwsIf _)]
      rfl
    · subst e1; subst e2
      exact absurd (show okT S (nI k) (nI q) = true by unfold okT; rw [show isT S (nI k) = true by (rw [isT_nI hF (by omega)]; exact decide_eq_true ho), decide_eq_true (n0le (by omega)), decide_eq_true (jle (j := q) (n := 7) (by omega) (by decide))]; rfl) h
theorem couS_n {q : Nat} (len : Int32) (hq : q < 7) : couS S len (nI q) = S q := by
  unfold couS
  rw [if_neg (n_eq (b := 7) (by omega) (by decide) (by omega)), if_neg (n_eq (b := 8) (by omega) (by decide) (by omega)), if_pos ⟨n0le (by omega), (jle (j := q) (n := 6) (by omega) (by decide))⟩, ix_nI (by omega)]
theorem x_count (h : XS S w) (p : Int32) : sh_179 0 p w = some (couS S (wI w 1 1) p, w) := by
  obtain ⟨hF, hW, hr, a, ha, hR⟩ := h
  unfold sh_179
  by_cases h0 : 0 ≤ p
  · obtain ⟨q, hq, e⟩ := nI_ex h0
    subst e
    by_cases h9 : q < 9
    · rw [swt_in h9 (by decide)]
      have : q = 0 ∨ q = 1 ∨ q = 2 ∨ q = 3 ∨ q = 4 ∨ q = 5 ∨ q = 6 ∨ q = 7 ∨ q = 8 := by omega
      rcases this with e | e | e | e | e | e | e | e | e <;> subst e
      · rw [if_pos rfl, der_e ha, hR.1]; rfl
      · rw [if_neg (by decide), if_pos rfl, der_e ha, hR.2.1]; rfl
      · rw [if_neg (by decide), if_neg (by decide), if_pos rfl, der_e ha, hR.2.2.1]; rfl
      · rw [if_neg (by decide), if_neg (by decide), if_neg (by decide), if_pos rfl, der_e ha, hR.2.2.2.1]; rfl
      · rw [if_neg (by decide), if_neg (by decide), if_neg (by decide), if_neg (by decide), if_pos rfl, der_e ha, hR.2.2.2.2.1]; rfl
      · rw [if_neg (by decide), if_neg (by decide), if_neg (by decide), if_neg (by decide), if_neg (by decide), if_pos rfl, der_e ha, hR.2.2.2.2.2.1]; rfl
      · rw [if_neg (by decide), if_neg (by decide), if_neg (by decide), if_neg (by decide), if_neg (by decide), if_neg (by decide), if_pos rfl, der_e ha, cl_e (x_fadeDays hR)]; rfl
      · rw [if_neg (by decide), if_neg (by decide), if_neg (by decide), if_neg (by decide), if_neg (by decide), if_neg (by decide), if_neg (by decide), if_pos rfl, Nat.zero_add, hr.1]; rfl
      · rfl
    · rw [swt_out (by omega) hq]
      unfold couS
      rw [if_neg (n_eq (b := 7) hq (by decide) (by omega)), if_neg (n_eq (b := 8) hq (by decide) (by omega)), if_neg (fun z => absurd z.2 (jnle (n := 6) (by omega) hq))]
  · have : swt p (fun i1 => if i1 = 0 then (der (wR w 0 2) (fun a4 => some (wI w a4 0, w))) else (if i1 = 1 then (der (wR w 0 2) (fun a5 => some (wI w a5 1, w))) else (if i1 = 2 then (der (wR w 0 2) (fun a6 => some (wI w a6 3, w))) else (if i1 = 3 then (der (wR w 0 2) (fun a7 => some (wI w a7 4, w))) else (if i1 = 4 then (der (wR w 0 2) (fun a8 => some (wI w a8 5, w))) else (if i1 = 5 then (der (wR w 0 2) (fun a9 => some (wI w a9 6, w))) else (if i1 = 6 then (der (wR w 0 2) (fun a10 => cl (sh_82 a10 w) (fun r12 w11 => some (r12, w11)))) else (if i1 = 7 then (some (wI w (0 + 35) 0, w)) else (some (wI w (0 + 1) 1, w)))))))))) (some ((-1), w)) 9 = some (-1, w) := by
      unfold swt
      rw [if_neg (fun z => h0 z.1)]
    rw [this]
    unfold couS
    rw [if_neg (fun z => by subst z; exact h0 (by decide)), if_neg (fun z => by subst z; exact h0 (by decide)), if_neg (fun z => h0 z.1)]
theorem y_count (hS : wI w 168 = S) (p : Int32) : sh_285 166 p w = some (couS S (wI w 166 2) p, sI w 166 0 0) := by
  unfold sh_285 couS
  rw [stI_s]
  by_cases h7 : p = 7
  · rw [if_pos h7, if_pos h7, gd_l (by decide) (by decide), m0 hS, ix_429]
  · rw [if_neg h7, if_neg h7]
    by_cases h8 : p = 8
    · rw [if_pos h8, if_pos h8, wI_other (by decide)]
    · rw [if_neg h8, if_neg h8, cl_e (y_isIn p 0 6 _)]
      by_cases h : 0 ≤ p ∧ p ≤ 6
      · obtain ⟨q, hq, e⟩ := nI_ex h.1
        subst e
        have h6 := h.2
        rw [i_le, i_nI hq] at h6
        have : (q : Int) ≤ 6 := h6
        rw [if_pos (by rw [decide_eq_true h.1, decide_eq_true h.2]; rfl), if_pos h, gd_nI (by omega) (by decide), m0 hS]
      · rw [if_neg (by rw [Bool.and_eq_true, decide_eq_true_eq, decide_eq_true_eq]; exact h), if_neg h]
end CX
