/-! what may be said of whom -/
/-- a search that counts, the world going on -/
theorem tp_srch {body : Int32 × Int32 → Wd → Option (((Int32 × Int32) ⊕ Int32) × Wd)} {I : Wd → Prop} (q : Nat → Bool) (k : Int32) (fin : Int32 → Int32) (N : Nat)
    (hs : ∀ j c w, j < N → I w → tp (body (c, nI j) w) (lpQ (fun s' w' => I w' ∧ ¬ (q j = true ∧ c = k) ∧ s' = (if q j = true then c + 1 else c, nI (j + 1))) (fun r w' => I w' ∧ (q j = true ∧ c = k) ∧ r = nI j)))
    (he : ∀ c w, I w → tp (body (c, nI N) w) (lpQ (fun _ _ => False) (fun r w' => I w' ∧ r = fin c))) (hN : N < 1000000000000000) {w : Wd} (hI : I w) : tp (itM body FU (0, nI 0) w) (fun r w' => r = srch q k fin N 0 0 ∧ I w') := by
  refine tp_it (fun j s w' => ∃ c, s = (c, nI j) ∧ j ≤ N ∧ I w' ∧ srch q k fin (N - j) j c = srch q k fin N 0 0) N hN ⟨0, rfl, Nat.zero_le _, hI, rfl⟩ (fun j s w' h => ?_)
  obtain ⟨c, e, hj, hI', hc⟩ := h
  subst e
  by_cases hjN : j < N
  · have e2 : srch q k fin (N - j) j c = if q j = true then (if c = k then nI j else srch q k fin (N - (j + 1)) (j + 1) (c + 1)) else srch q k fin (N - (j + 1)) (j + 1) c := by
      rw [show N - j = (N - (j + 1)) + 1 by omega]
      rfl
    obtain ⟨r, w2, e3, h3⟩ := hs j c w' hjN hI'
    refine ⟨r, w2, e3, ?_⟩
    cases r with
    | inl s' =>
      obtain ⟨g1, g2, g3⟩ := h3
      refine ⟨hjN, if q j = true then c + 1 else c, g3, by omega, g1, ?_⟩
      rw [← hc, e2]
      by_cases z : q j = true
      · rw [if_pos z, if_pos z, if_neg (fun y => g2 ⟨z, y⟩)]
      · rw [if_neg z, if_neg z]
    | inr r =>
      obtain ⟨g1, g2, g3⟩ := h3
      refine ⟨?_, g1⟩
      rw [g3, ← hc, e2, if_pos g2.1, if_pos g2.2]
  · have : j = N := by omega
    subst this
    obtain ⟨r, w2, e3, h3⟩ := he c w' hI'
    refine ⟨r, w2, e3, ?_⟩
    cases r with
    | inl s' => exact absurd h3 id
    | inr r =>
      refine ⟨?_, h3.1⟩
      rw [h3.2, ← hc, Nat.sub_self]
      rfl
/-! truths as bits: B 0, .. from the bottom, n of them -/
def btN (B : Nat → Bool) : Nat → Nat
  | 0 => 0
  | n + 1 => (if B n = true then 1 else 0) + 2 * btN B n
theorem btN_lt (B : Nat → Bool) (n : Nat) : btN B n < 2 ^ n := by
  induction n with
  | zero => show 0 < 1; decide
  | succ n ih =>
    unfold btN
    rw [Nat.pow_succ]
    split <;> omega
theorem btN_c {B B' : Nat → Bool} {n : Nat} (h : ∀ i, i < n → B i = B' i) : btN B n = btN B' n := by
  induction n with
  | zero => rfl
  | succ n ih => unfold btN; rw [h n (by omega), ih (fun i hi => h i (by omega))]
def upB (B : Nat → Bool) (j : Nat) (b : Bool) : Nat → Bool := fun i => if i = j then b else B i
theorem upB_s (B : Nat → Bool) (j : Nat) (b : Bool) : upB B j b j = b := if_pos rfl
theorem upB_o (B : Nat → Bool) {i j : Nat} (b : Bool) (h : ¬ i = j) : upB B j b i = B i := if_neg h
theorem btN_push (B : Nat → Bool) (n : Nat) (b : Bool) : btN (upB B n b) (n + 1) = (if b = true then 1 else 0) + 2 * btN B n := by
  show (if upB B n b n = true then 1 else 0) + 2 * btN (upB B n b) n = _
  rw [upB_s, btN_c (B := upB B n b) (B' := B) (fun i hi => upB_o B b (by omega))]
theorem xor1 (r b : Nat) (hb : b < 2) : (b + 2 * r) ^^^ 1 = (1 - b) + 2 * r := by
  apply Nat.eq_of_testBit_eq
  intro i
  rw [Nat.testBit_xor]
  have : b = 0 ∨ b = 1 := by omega
  cases i with
  | zero =>
    rcases this with e | e <;> subst e <;> simp [Nat.testBit_zero] <;> omega
  | succ i =>
    have h1 : Nat.testBit 1 (i + 1) = false := by
      rw [Nat.testBit_succ]
      simp
    rw [h1, Bool.xor_false, Nat.testBit_succ, Nat.testBit_succ, show (b + 2 * r) / 2 = r by omega, show (1 - b + 2 * r) / 2 = r by omega]
theorem or1 (r b : Nat) (hb : b < 2) : (2 * r) ||| b = b + 2 * r := by
  apply Nat.eq_of_testBit_eq
  intro i
  rw [Nat.testBit_or]
  have : b = 0 ∨ b = 1 := by omega
  cases i with
  | zero =>
    rcases this with e | e <;> subst e <;> simp [Nat.testBit_zero] <;> omega
  | succ i =>
    have h1 : Nat.testBit b (i + 1) = false := by
      rw [Nat.testBit_succ, show b / 2 = 0 by omega]
      simp
    rw [h1, Bool.or_false, Nat.testBit_succ, Nat.testBit_succ, show (2 * r) / 2 = r by omega, show (b + 2 * r) / 2 = r by omega]
theorem low1 (r b : Nat) (hb : b < 2) : (b + 2 * r) &&& 1 = b := by
  rw [Nat.and_one_is_mod]
  omega
/-! leaves -/
def trodB (S : Nat → Int32) (p k : Nat) : Bool := decide (∃ i, i < lenN S k ∧ 0 < lsS S (tN S k i) p)
def cmpB (v y z : Int32) : Bool := if y = 60 then decide (v < z) else if y = 61 then decide (v = z) else decide (z < v)
def leafB (S : Nat → Int32) (p i : Nat) : Bool := if S (10085 + 3 * i) = 0 then trodB S p (ix (S (10087 + 3 * i))) else cmpB (meaS S p (ix (S (10085 + 3 * i)) - 1)) (S (10086 + 3 * i)) (S (10087 + 3 * i))
/-- one step of the stack: its depth, its truths -/
def evS (S : Nat → Int32) (p i : Nat) (s : Nat × (Nat → Bool)) : Nat × (Nat → Bool) := if S (10085 + 3 * i) = 10 then (s.1, upB s.2 (s.1 - 1) (!s.2 (s.1 - 1))) else if S (10085 + 3 * i) = 11 then (s.1 - 1, upB s.2 (s.1 - 2) (s.2 (s.1 - 2) && s.2 (s.1 - 1))) else if S (10085 + 3 * i) = 12 then (s.1 - 1, upB s.2 (s.1 - 2) (s.2 (s.1 - 2) || s.2 (s.1 - 1))) else (s.1 + 1, upB s.2 s.1 (leafB S p i))
def evN (S : Nat → Int32) (p n : Nat) : Nat × (Nat → Bool) := fo (evS S p) n (0, fun _ => false)
theorem evN_s (S : Nat → Int32) (p n : Nat) : evN S p (n + 1) = evS S p n (evN S p n) := rfl
/-- a step's kind, the class's numbers a b n, the reference's x y z, the depth ahead and behind -/
def stpR (S : Nat → Int32) (a b n x y z : Int32) (D D' : Nat) : Prop :=
  (a = 6 ∧ x = 10 ∧ 1 ≤ D ∧ D' = D) ∨ (a = 7 ∧ x = 11 ∧ 2 ≤ D ∧ D' + 1 = D) ∨ (a = 8 ∧ x = 12 ∧ 2 ≤ D ∧ D' + 1 = D) ∨
  (∃ k, k < ix (S 3) ∧ a = 9 ∧ x = 0 ∧ n = nI k ∧ z = nI k ∧ D' = D + 1 ∧ D' ≤ 20) ∨
  (∃ q, q < 6 ∧ a = nI q ∧ x = nI (q + 1) ∧ y = b ∧ z = n ∧ D' = D + 1 ∧ D' ≤ 20)
/-- the object s holds the SENTENCE of S -/
def SR (S : Nat → Int32) (w : Wd) (s : Nat) : Prop := ∃ (c : Nat) (D : Nat → Nat), c ≤ 45 ∧ S 10084 = nI c ∧ wI w s 1 = nI c ∧ (wI w s 0 = 0 ↔ c = 0) ∧ D 0 = 0 ∧ (0 < c → D c = 1) ∧
  ∀ i, i < c → stpR S (wI w (s + 1) i) (wI w (s + 2) i) (wI w (s + 3) i) (S (10085 + 3 * i)) (S (10086 + 3 * i)) (S (10087 + 3 * i)) (D i) (D (i + 1))
theorem SR.kp {S : Nat → Int32} {w w' : Wd} {s : Nat} {P : Nat → Prop} (h : SR S w s) (hk : Kp P w w') (hP : ∀ q, s ≤ q → q ≤ s + 3 → ¬ P q) : SR S w' s := by
  unfold SR
  rw [hk.I (hP s (by omega) (by omega)), hk.I (hP (s + 1) (by omega) (by omega)), hk.I (hP (s + 2) (by omega) (by omega)), hk.I (hP (s + 3) (by omega) (by omega))]
  exact h
theorem SR.cong {S T : Nat → Int32} {w : Wd} {s : Nat} (h : SR S w s) (e3 : T 3 = S 3) (he : ∀ j, 10084 ≤ j → T j = S j) : SR T w s := by
  obtain ⟨c, D, h1, h2, h3, h4, h5, h6, h7⟩ := h
  refine ⟨c, D, h1, by rw [he _ (by omega)]; exact h2, h3, h4, h5, h6, fun i hi => ?_⟩
  unfold stpR
  rw [e3, he _ (by omega), he _ (by omega), he _ (by omega)]
  exact h7 i hi
section SA
variable {S : Nat → Int32} {w : Wd} {h r s o : Nat}
theorem ev_dep {c p : Nat} {a b n : Nat → Int32} {D : Nat → Nat} (hD : D 0 = 0) (hst : ∀ i, i < c → stpR S (a i) (b i) (n i) (S (10085 + 3 * i)) (S (10086 + 3 * i)) (S (10087 + 3 * i)) (D i) (D (i + 1))) (i : Nat) (hi : i ≤ c) : (evN S p i).1 = D i ∧ D i ≤ 20 := by
  induction i with
  | zero => exact ⟨hD.symm, by omega⟩
  | succ i ih =>
    obtain ⟨i1, i2⟩ := ih (by omega)
    rw [evN_s]
    unfold evS
    rcases hst i (by omega) with ⟨-, ex, h1, h2⟩ | ⟨-, ex, h1, h2⟩ | ⟨-, ex, h1, h2⟩ | ⟨k, hk, -, ex, -, -, h1, h2⟩ | ⟨q, hq, -, ex, -, -, h1, h2⟩
    · rw [ex, if_pos rfl]
      exact ⟨by rw [i1]; exact h2.symm, by omega⟩
    · rw [ex, if_neg (by decide), if_pos rfl]
      exact ⟨by show (evN S p i).1 - 1 = _; omega, by omega⟩
    · rw [ex, if_neg (by decide), if_neg (by decide), if_pos rfl]
      exact ⟨by show (evN S p i).1 - 1 = _; omega, by omega⟩
    · rw [ex, if_neg (by decide), if_neg (by decide), if_neg (by decide)]
      exact ⟨by show (evN S p i).1 + 1 = _; omega, h2⟩
    · rw [ex, if_neg (n_eq (b := 10) (by omega) (by decide) (by omega)), if_neg (n_eq (b := 11) (by omega) (by decide) (by omega)), if_neg (n_eq (b := 12) (by omega) (by decide) (by omega))]
      exact ⟨by show (evN S p i).1 + 1 = _; omega, h2⟩
theorem x_trodAlong (hF : WF S) (hR : HR S w h) (hr : RR S w r) {p k : Nat} (hp : p < 6) (hk : k < ix (S 3)) : sh_170 r h (nI p) (nI k) w = some (trodB S p k, w) := by
  obtain ⟨m, en, hm1, hm2, e, hw⟩ := hF.ways hk
  have hk6 := hF.w6 hk
  unfold sh_170
  rw [cl_e (x_len hF hR (by omega)), e]
  have key := itM_find (body := fun (v5_3 : Int32) (w5 : Wd) => if v5_3 < nI m then (cl (sh_65 h (nI k) v5_3 w5) (fun r8 w7 => cl (sh_171 r (nI p) r8 w7) (fun r10 w9 => if 0 < r10 then (some (.inr (true), w9)) else (lt (v5_3 + 1 : Int32) (fun v5_12 => some (.inl v5_12, w9)))))) else (some (.inr (false), w5))) (fun i => decide (0 < lsS S (tN S k i) p)) (fun _ => true) false m w (fun j hj => ?_) ?_ (s := 0) rfl (by omega)
  · rcases key with ⟨j, hj, h1, -, h3⟩ | ⟨h1, h2⟩
    · refine h3.trans ?_
      rw [show trodB S p k = true from decide_eq_true ⟨j, by omega, of_decide_eq_true h1⟩]
    · refine h2.trans ?_
      rw [show trodB S p k = false from decide_eq_false (fun ⟨i, hi, q⟩ => of_decide_eq_false (h1 i (by omega)) q)]
  · obtain ⟨t, et, ht, -⟩ := hw j hj
    show (if nI j < nI m then _ else _) = _
    rw [if_pos (nlt hj (by omega)), cl_e (x_way_in hF hR (by omega)), et, cl_e (x_printsByOn hr ht hp), show tN S k j = t by unfold tN; rw [et, ix_nI (by omega)]]
    by_cases q : 0 < lsS S t p
    · rw [if_pos q, if_pos (decide_eq_true q)]
    · rw [if_neg q, if_neg (by rw [decide_eq_false q]; decide)]
      simp only [lt_s_, nI_s]
  · show (if nI m < nI m then _ else _) = _
    rw [if_neg (nnlt (Nat.le_refl _) (by omega))]
theorem y_hasTrod (hF : WF S) (hS : wI w (o + 2) = S) {p k : Nat} (hp : p < 6) (hk : k < ix (S 3)) : sh_282 o (nI p) (nI k) w = some (trodB S p k, w) := by
  obtain ⟨m, en, hm1, hm2, e, hw⟩ := hF.ways hk
  have hk6 := hF.w6 hk
  unfold sh_282
  have key := itM_find (body := fun (v3_1 : Int32) (w3 : Wd) => gd (ib (177 + nI k) 10265) (if v3_1 < wI w3 (o + 2) (ix (177 + nI k)) then (gd (ib ((183 + (41 * nI k)) + v3_1) 10265) (cl (sh_213 o (wI w3 (o + 2) (ix ((183 + (41 * nI k)) + v3_1))) (nI p) w3) (fun r6 w5 => if 0 < r6 then (some (.inr (true), w5)) else (lt (v3_1 + 1 : Int32) (fun v3_8 => some (.inl v3_8, w5)))))) else (some (.inr (false), w3)))) (fun i => decide (0 < lsS S (tN S k i) p)) (fun _ => true) false m w (fun j hj => ?_) ?_ (s := 0) rfl (by omega)
  · rcases key with ⟨j, hj, h1, -, h3⟩ | ⟨h1, h2⟩
    · refine h3.trans ?_
      rw [show trodB S p k = true from decide_eq_true ⟨j, by omega, of_decide_eq_true h1⟩]
    · refine h2.trans ?_
      rw [show trodB S p k = false from decide_eq_false (fun ⟨i, hi, q⟩ => of_decide_eq_false (h1 i (by omega)) q)]
  · obtain ⟨t, et, ht, -⟩ := hw j hj
    show gd (ib (177 + nI k) 10265) _ = _
    rw [l177, nI_p, gd_nI (by omega) (by decide), ix_nI (by omega), hS, en, if_pos (nlt hj (by omega)), l183, l41, nI_m, nI_p, nI_p, gd_nI (by omega) (by decide), ix_nI (by omega), et, cl_e (y_liesOf hS ht hp), show tN S k j = t by unfold tN; rw [et, ix_nI (by omega)]]
    by_cases q : 0 < lsS S t p
    · rw [if_pos q, if_pos (decide_eq_true q)]
    · rw [if_neg q, if_neg (by rw [decide_eq_false q]; decide)]
      simp only [lt_s_, nI_s]
  · show gd (ib (177 + nI k) 10265) _ = _
    rw [l177, nI_p, gd_nI (by omega) (by decide), ix_nI (by omega), hS, en, if_neg (nnlt (Nat.le_refl _) (by omega))]
theorem x_leaf (hF : WF S) (hR : HR S w h) (hr : RR S w r) {p i : Nat} (hp : p < ix (S 2)) (hi : i < 64) {D D' : Nat} (hst : stpR S (wI w (s + 1) i) (wI w (s + 2) i) (wI w (s + 3) i) (S (10085 + 3 * i)) (S (10086 + 3 * i)) (S (10087 + 3 * i)) D D') (h6 : ¬ wI w (s + 1) i = 6) (h7 : ¬ wI w (s + 1) i = 7) (h8 : ¬ wI w (s + 1) i = 8) : sh_169 s h r (nI p) (nI i) w = some (leafB S p i, w) := by
  have hp6 := hF.p6 hp
  have hg : gd (ib (nI i) 64) = (id : Option (Bool × Wd) → Option (Bool × Wd)) := by
    funext k
    exact gd_nI hi (by decide)
  unfold sh_169
  rw [if_pos (n0le (by omega)), if_neg (show ¬ (64 : Int32) ≤ nI i from nnle (a := 64) hi (by decide)), ix_nI (by omega), hg]
  unfold leafB
  rcases hst with ⟨ea, -⟩ | ⟨ea, -⟩ | ⟨ea, -⟩ | ⟨k, hk, ea, ex, en, ez, -⟩ | ⟨q, hq, ea, ex, ey, ez, -⟩
  · exact absurd ea h6
  · exact absurd ea h7
  · exact absurd ea h8
  · have hk6 := hF.w6 hk
    rw [ea, ex, en, ez, if_pos rfl, if_pos rfl, ix_nI (by omega)]
    show cl (sh_170 r h (nI p) (nI k) w) _ = _
    rw [cl_e (x_trodAlong hF hR hr hp6 hk)]
  · rw [ea, ex, ey, ez, if_neg (n_eq (b := 9) (by omega) (by decide) (by omega)), if_neg (nI_ne0 (by omega) (by omega)), ix_nI (by omega), show q + 1 - 1 = q by omega]
    show cl (sh_172 h r (nI p) (nI q) w) _ = _
    rw [cl_e (x_measure hF hR hr hp hq)]
    unfold cmpB
    show (if wI w (s + 2) i = 60 then lt (if meaS S p q < wI w (s + 3) i then true else false : Bool) (fun z9 => some (z9, w)) else (if wI w (s + 2) i = 61 then (if meaS S p q = wI w (s + 3) i then some (true, w) else some (false, w)) else (if wI w (s + 3) i < meaS S p q then some (true, w) else some (false, w)))) = _
    by_cases c1 : wI w (s + 2) i = 60
    · rw [if_pos c1, if_pos c1, ite_b]
      rfl
    · rw [if_neg c1, if_neg c1]
      by_cases c2 : wI w (s + 2) i = 61
      · rw [if_pos c2, if_pos c2]
        by_cases c3 : meaS S p q = wI w (s + 3) i
        · rw [if_pos c3, decide_eq_true c3]
        · rw [if_neg c3, decide_eq_false c3]
      · rw [if_neg c2, if_neg c2]
        by_cases c3 : wI w (s + 3) i < meaS S p q
        · rw [if_pos c3, decide_eq_true c3]
        · rw [if_neg c3, decide_eq_false c3]
theorem y_leaf (hF : WF S) (hS : wI w 168 = S) {p i : Nat} (hp : p < ix (S 2)) {a b n : Int32} {D D' : Nat} (hst : stpR S a b n (S (10085 + 3 * i)) (S (10086 + 3 * i)) (S (10087 + 3 * i)) D D') (h6 : ¬ S (10085 + 3 * i) = 10) (h7 : ¬ S (10085 + 3 * i) = 11) (h8 : ¬ S (10085 + 3 * i) = 12) : tp (sh_281 166 (nI p) (S (10085 + 3 * i)) (S (10086 + 3 * i)) (S (10087 + 3 * i)) w) (fun v w' => v = leafB S p i ∧ (w' = w ∨ w' = sI w 166 0 0)) := by
  have hp6 := hF.p6 hp
  unfold sh_281
  rcases hst with ⟨-, ex, -⟩ | ⟨-, ex, -⟩ | ⟨-, ex, -⟩ | ⟨k, hk, -, ex, -, ez, -⟩ | ⟨q, hq, -, ex, -, -, -⟩
  · exact absurd ex h6
  · exact absurd ex h7
  · exact absurd ex h8
  · have hk6 := hF.w6 hk
    have e : leafB S p i = trodB S p k := by
      unfold leafB
      rw [ex, ez, if_pos rfl, ix_nI (by omega)]
    rw [e, ex, ez]
    exact tp_if rfl (tp_ce (y_hasTrod (o := 166) hF hS hp6 hk) (tp_some ⟨rfl, Or.inl rfl⟩))
  · have e : leafB S p i = cmpB (meaS S p q) (S (10086 + 3 * i)) (S (10087 + 3 * i)) := by
      unfold leafB
      rw [ex, if_neg (nI_ne0 (by omega) (by omega)), ix_nI (by omega), show q + 1 - 1 = q by omega]
    rw [e, ex]
    refine tp_ifn (nI_ne0 (by omega) (by omega)) (tp_jn ?_)
    have fin : ∀ w1 : Wd, (w1 = w ∨ w1 = sI w 166 0 0) → tp (lt (if S (10086 + 3 * i) = 60 then (if meaS S p q < S (10087 + 3 * i) then true else false) else (if S (10086 + 3 * i) = 61 then (if meaS S p q = S (10087 + 3 * i) then true else false) else (if S (10087 + 3 * i) < meaS S p q then true else false)) : Bool) (fun z7 => some (z7, w1))) (fun v w' => v = cmpB (meaS S p q) (S (10086 + 3 * i)) (S (10087 + 3 * i)) ∧ (w' = w ∨ w' = sI w 166 0 0)) := by
      intro w1 h1
      refine tp_lt (tp_some ⟨?_, h1⟩)
      unfold cmpB
      rw [ite_b, ite_b, ite_b]
    refine tp_ite (fun c => ?_) (fun c => ?_)
    · have hq5 : q = 5 := by
        have := (nI_eq (by omega) (by decide)).mp (show nI (q + 1) = nI 6 from c)
        omega
      subst hq5
      exact fin w (Or.inl rfl)
    · have hq5 : q < 5 := by
        by_cases z : q = 5
        · subst z; exact absurd rfl c
        · omega
      rw [nI_pred]
      refine tp_ce (y_person (o := 166) hF hS hp (by omega)) ?_
      have e : meaS S p q = perS S p q := if_pos hq5
      rw [← e]
      exact fin _ (Or.inr rfl)
theorem x_holds (hF : WF S) (hR : HR S w h) (hr : RR S w r) {p c : Nat} (hp : p < ix (S 2)) (hc : c ≤ 45) (hc0 : 0 < c) {D : Nat → Nat} (e1 : wI w s 1 = nI c) (hD0 : D 0 = 0) (hDc : D c = 1) (hst : ∀ i, i < c → stpR S (wI w (s + 1) i) (wI w (s + 2) i) (wI w (s + 3) i) (S (10085 + 3 * i)) (S (10086 + 3 * i)) (S (10087 + 3 * i)) (D i) (D (i + 1))) : sh_168 s h r (nI p) w = some ((evN S p c).2 0, w) := by
  have hd := ev_dep (p := p) hD0 hst
  have hb : ∀ i, i ≤ c → btN (evN S p i).2 (D i) < 1048576 := fun i hi => Nat.lt_of_lt_of_le (btN_lt _ _) (Nat.pow_le_pow_right (by decide) (hd i hi).2)
  unfold sh_168
  refine itM_seq (fun i => (nI (btN (evN S p i).2 (D i)), nI i)) (fun _ => w) c (fun i hi => ?_) ?_ (by rw [hD0]; rfl) rfl (by omega)
  · have hbi := hb i (by omega)
    have hdi := hd i (by omega)
    have hds := hd (i + 1) (by omega)
    have hs := hst i hi
    show jn _ _ = _
    rw [jn_s, e1, if_pos (nlt hi (by omega)), if_pos (jl (n := 64) (j := i) (by omega) (by decide)), lt_s_, lt_s_, gd_nI (by omega) (by decide), gd_nI (by omega) (by decide), gd_nI (by omega) (by decide), ix_nI (by omega), nI_s, evN_s]
    have ef : ∀ k m : Nat, k ≤ 20 → btN (evN S p i).2 k < 1048576 := fun k m hk => Nat.lt_of_lt_of_le (btN_lt _ _) (Nat.pow_le_pow_right (by decide) hk)
    unfold evS
    by_cases h6 : wI w (s + 1) i = 6
    · rcases hs with ⟨-, ex, h1, h2⟩ | ⟨ea, -⟩ | ⟨ea, -⟩ | ⟨k, hk, ea, -⟩ | ⟨q, hq, ea, -⟩
      · rw [if_pos h6, ex, if_pos rfl, l1, n_xor, hdi.1, h2]
        obtain ⟨m, em⟩ : ∃ m, D i = m + 1 := ⟨D i - 1, by omega⟩
        rw [em, Nat.add_sub_cancel, btN_push]
        show some (Sum.inl (nI (((if (evN S p i).2 m = true then 1 else 0) + 2 * btN (evN S p i).2 m) ^^^ 1), nI (i + 1)), w) = _
        rw [xor1 _ _ (by split <;> omega)]
        cases (evN S p i).2 m <;> rfl
      · rw [ea] at h6; exact absurd h6 (by decide)
      · rw [ea] at h6; exact absurd h6 (by decide)
      · rw [ea] at h6; exact absurd h6 (by decide)
      · rw [ea] at h6; exact absurd h6 (n_eq (b := 6) (by omega) (by decide) (by omega))
    · rw [if_neg h6]
      have shr2 : ∀ v, v < 1048576 → nI v >>> ((2 : Int32) &&& 31) = nI (v / 4) := fun v hv => pk_shrN (by omega) _ 2 rfl
      have shr1 : ∀ v, v < 1048576 → nI v >>> ((1 : Int32) &&& 31) = nI (v / 2) := fun v hv => pk_shrN (by omega) _ 1 rfl
      have shl1 : ∀ v, v < 1048576 → nI v <<< ((1 : Int32) &&& 31) = nI (v * 2) := fun v hv => pk_shlN _ 1 rfl (by omega)
      have bin : ∀ b0 b1 f : Nat, b0 < 2 → b1 < 2 → f < 2 → ∀ R, b0 + 2 * (b1 + 2 * R) < 1048576 → nI ((b0 + 2 * (b1 + 2 * R)) / 4) <<< ((1 : Int32) &&& 31) = nI (2 * R) ∧ nI (b0 + 2 * (b1 + 2 * R)) &&& 1 = nI b0 ∧ (nI (b0 + 2 * (b1 + 2 * R)) >>> ((1 : Int32) &&& 31)) &&& 1 = nI b1 ∧ nI (2 * R) ||| nI f = nI (f + 2 * R) := by
        intro b0 b1 f h0 h1 hf R hR
        refine ⟨?_, ?_, ?_, ?_⟩
        · rw [show (b0 + 2 * (b1 + 2 * R)) / 4 = R by omega, shl1 _ (by omega), Nat.mul_comm]
        · rw [l1, n_and, low1 _ _ h0]
        · rw [shr1 _ hR, show (b0 + 2 * (b1 + 2 * R)) / 2 = b1 + 2 * R by omega, l1, n_and, low1 _ _ h1]
        · rw [n_or, or1 _ _ hf]
      by_cases h7 : wI w (s + 1) i = 7
      · rcases hs with ⟨ea, -⟩ | ⟨-, ex, h1, h2⟩ | ⟨ea, -⟩ | ⟨k, hk, ea, -⟩ | ⟨q, hq, ea, -⟩
        · exact absurd ea h6
        · obtain ⟨m, em⟩ : ∃ m, D i = m + 2 := ⟨D i - 2, by omega⟩
          have em2 : D (i + 1) = m + 1 := by omega
          rw [if_pos h7, ex, if_neg (by decide), if_pos rfl, hdi.1, em, em2, show m + 2 - 1 = m + 1 by omega, Nat.add_sub_cancel, btN_push]
          rw [em] at hbi
          have eb : btN (evN S p i).2 (m + 2) = (if (evN S p i).2 (m + 1) = true then 1 else 0) + 2 * ((if (evN S p i).2 m = true then 1 else 0) + 2 * btN (evN S p i).2 m) := rfl
          rw [shr2 _ hbi]
          rw [eb] at hbi ⊢
          obtain ⟨k1, k2, k3, k4⟩ := bin (if (evN S p i).2 (m + 1) = true then 1 else 0) (if (evN S p i).2 m = true then 1 else 0) ((if (evN S p i).2 (m + 1) = true then 1 else 0) &&& (if (evN S p i).2 m = true then 1 else 0)) (by split <;> omega) (by split <;> omega) (by cases (evN S p i).2 (m + 1) <;> cases (evN S p i).2 m <;> decide) _ hbi
          rw [k1, k2, k3, n_and, k4]
          cases (evN S p i).2 (m + 1) <;> cases (evN S p i).2 m <;> rfl
        · rw [ea] at h7; exact absurd h7 (by decide)
        · rw [ea] at h7; exact absurd h7 (by decide)
        · rw [ea] at h7; exact absurd h7 (n_eq (b := 7) (by omega) (by decide) (by omega))
      · rw [if_neg h7]
        by_cases h8 : wI w (s + 1) i = 8
        · rcases hs with ⟨ea, -⟩ | ⟨ea, -⟩ | ⟨-, ex, h1, h2⟩ | ⟨k, hk, ea, -⟩ | ⟨q, hq, ea, -⟩
          · exact absurd ea h6
          · exact absurd ea h7
          · obtain ⟨m, em⟩ : ∃ m, D i = m + 2 := ⟨D i - 2, by omega⟩
            have em2 : D (i + 1) = m + 1 := by omega
            rw [if_pos h8, ex, if_neg (by decide), if_neg (by decide), if_pos rfl, hdi.1, em, em2, show m + 2 - 1 = m + 1 by omega, Nat.add_sub_cancel, btN_push]
            rw [em] at hbi
            have eb : btN (evN S p i).2 (m + 2) = (if (evN S p i).2 (m + 1) = true then 1 else 0) + 2 * ((if (evN S p i).2 m = true then 1 else 0) + 2 * btN (evN S p i).2 m) := rfl
            rw [shr2 _ hbi]
            rw [eb] at hbi ⊢
            obtain ⟨k1, k2, k3, k4⟩ := bin (if (evN S p i).2 (m + 1) = true then 1 else 0) (if (evN S p i).2 m = true then 1 else 0) ((if (evN S p i).2 (m + 1) = true then 1 else 0) ||| (if (evN S p i).2 m = true then 1 else 0)) (by split <;> omega) (by split <;> omega) (by cases (evN S p i).2 (m + 1) <;> cases (evN S p i).2 m <;> decide) _ hbi
            rw [k1, k2, k3, n_or, k4]
            cases (evN S p i).2 (m + 1) <;> cases (evN S p i).2 m <;> rfl
          · rw [ea] at h8; exact absurd h8 (by decide)
          · rw [ea] at h8; exact absurd h8 (n_eq (b := 8) (by omega) (by decide) (by omega))
        · rw [if_neg h8, cl_e (x_leaf hF hR hr hp (by omega) hs h6 h7 h8)]
          have hx : ¬ S (10085 + 3 * i) = 10 ∧ ¬ S (10085 + 3 * i) = 11 ∧ ¬ S (10085 + 3 * i) = 12 ∧ D (i + 1) = D i + 1 := by
            rcases hs with ⟨ea, -⟩ | ⟨ea, -⟩ | ⟨ea, -⟩ | ⟨k, hk, ea, ex, -, -, h1, -⟩ | ⟨q, hq, ea, ex, -, -, h1, -⟩
            · exact absurd ea h6
            · exact absurd ea h7
            · exact absurd ea h8
            · rw [ex]; exact ⟨by decide, by decide, by decide, h1⟩
            · rw [ex]; exact ⟨n_eq (b := 10) (by omega) (by decide) (by omega), n_eq (b := 11) (by omega) (by decide) (by omega), n_eq (b := 12) (by omega) (by decide) (by omega), h1⟩
          rw [if_neg hx.1, if_neg hx.2.1, if_neg hx.2.2.1, hdi.1, hx.2.2.2, btN_push, shl1 _ hbi, lt_s_, lt_s_]
          have eb : bi (if leafB S p i = true then true else false) = nI (if leafB S p i = true then 1 else 0) := by cases leafB S p i <;> rfl
          rw [eb, n_or, Nat.mul_comm, or1 _ _ (by split <;> omega)]
          rfl
  · show jn _ _ = _
    rw [jn_s, e1, if_neg (nnlt (Nat.le_refl _) (by omega)), hDc]
    show lt (if nI ((if (evN S p c).2 0 = true then 1 else 0) + 2 * 0) &&& 1 = 1 then true else false) _ = _
    cases (evN S p c).2 0 <;> rfl
theorem x_said (hX : XG S w) {a : Nat} (h4 : wR w 0 4 = some a) (hs : SR S w a) (k : Int32) : sh_167 0 k w = some (if S 10084 = 0 then -1 else srch (fun p => (evN S p (ix (S 10084))).2 0) k (fun c => if k = -1 then c else -1) (ix (S 2)) 0 0, w) := by
  obtain ⟨hF, hW, hr, o, ho, h7, hR⟩ := hX
  obtain ⟨c, D, hc, e0, e1, ez, hD0, hDc, hst⟩ := hs
  obtain ⟨P, eP, hP⟩ := hF.2.1
  unfold sh_167
  rw [der_e h4, e0, eP, ix_nI (by omega), ix_nI (by omega)]
  by_cases hc0 : c = 0
  · rw [if_pos (ez.mpr hc0), hc0]; rfl
  · rw [if_neg (fun q => hc0 (ez.mp q)), if_neg (nI_ne0 (by omega) (by omega))]
    refine itM_srch _ k _ P (fun j d hj => ?_) (fun d => ?_) (by omega) rfl
    · show der (wR w 0 2) _ = _
      rw [der_e ho, hR.2.2.1, eP, if_pos (nlt hj (by omega)), der_e h4, der_e ho, Nat.zero_add, cl_e (x_holds hF hR hr (by rw [eP, ix_nI (by omega)]; exact hj) hc (by omega) e1 hD0 (hDc (by omega)) hst)]
      by_cases q : (evN S j c).2 0 = true
      · rw [if_pos q, if_pos q]
        simp only [lt_s_, nI_s]
      · rw [if_neg q, if_neg q]
        simp only [lt_s_, nI_s]
    · show der (wR w 0 2) _ = _
      rw [der_e ho, hR.2.2.1, eP, if_neg (nnlt (Nat.le_refl _) (by omega))]
      rfl
end SA
