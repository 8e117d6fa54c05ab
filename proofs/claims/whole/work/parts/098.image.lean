/-! names; images -/
def en5 (l : List Nat) : Nat := l.foldl (fun c x => c * 32 + x) 0
def en8 (l : List Nat) : Nat := l.foldl (fun c x => c * 256 + (x + 96)) 0
/-- one WORD, told twice: five bits a letter, eight bits a letter -/
def WD (a b : Int64) : Prop := ∃ l : List Nat, 1 ≤ l.length ∧ l.length ≤ 7 ∧ (∀ x ∈ l, 1 ≤ x ∧ x ≤ 26) ∧ a = lN (en5 l) ∧ b = lN (en8 l)
/-- the names of the HOUSE at o -/
def NM (S : Nat → Int32) (w : Wd) (o : Nat) (f : Nat → Int64) : Prop := (∀ k, k < ix (S 2) → WD (wL w (o + 4) k) (f k)) ∧ ∀ k, k < ix (S 3) → WD (wL w (o + 5) k) (f (6 + k))
/-- where home, draft, saying, sayingDraft lie; home's names, the SENTENCE -/
def XN (S : Nat → Int32) (f : Nat → Int64) (w : Wd) : Prop := ∃ a b s u, wR w 0 2 = some a ∧ wR w 0 3 = some b ∧ wR w 0 4 = some s ∧ wR w 0 5 = some u ∧ (a = 7 ∧ b = 17 ∨ a = 17 ∧ b = 7) ∧ (s = 27 ∧ u = 31 ∨ s = 31 ∧ u = 27) ∧ NM S w a f ∧ SR S w s
def MN (f : Nat → Int64) (w : Wd) : Prop := ∀ i, i < 12 → wL w 171 i = f i
def KX (fl : Nat → Bool) (Z : Nat → Nat → Int32) (g : Nat → Nat → Int64) (w : Wd) : Prop := ∀ k, k < 2 → wI w 47 k = bi (fl k) ∧ (fl k = true → WF (Z k) ∧ WR (Z k) ∧ HR (Z k) w (122 + 22 * k) ∧ RR (Z k) w (132 + 22 * k) ∧ SR (Z k) w (140 + 22 * k) ∧ NM (Z k) w (122 + 22 * k) (g k))
def KM (fl : Nat → Bool) (Z : Nat → Nat → Int32) (g : Nat → Nat → Int64) (w : Wd) : Prop := ∀ k, k < 2 → wI w 190 k = bi (fl k) ∧ (fl k = true → (∀ i, i < 10265 → wI w 188 (10265 * k + i) = Z k i) ∧ ∀ i, i < 12 → wL w 189 (12 * k + i) = g k i)
section IM
variable {S T : Nat → Int32} {w w' : Wd} {f : Nat → Int64} {fl : Nat → Bool} {Z : Nat → Nat → Int32} {g : Nat → Nat → Int64} {us : Nat → Nat → Int32} {n : Nat}
theorem SR.cong2 {s : Nat} (h : SR S w s) (e3 : T 3 = S 3) (he : ∀ j, 10084 ≤ j → j < 10265 → T j = S j) : SR T w s := by
  obtain ⟨c, D, h1, h2, h3, h4, h5, h6, h7⟩ := h
  refine ⟨c, D, h1, by rw [he _ (by omega) (by omega)]; exact h2, h3, h4, h5, h6, fun i hi => ?_⟩
  unfold stpR
  rw [e3, he _ (by omega) (by omega), he _ (by omega) (by omega), he _ (by omega) (by omega)]
  exact h7 i hi
theorem NM.kp {o : Nat} {P : Nat → Prop} (h : NM S w o f) (hk : Kp P w w') (hP : ∀ q, o + 4 ≤ q → q ≤ o + 5 → ¬ P q) : NM S w' o f := by
  unfold NM
  rw [hk.L (hP (o + 4) (by omega) (by omega)), hk.L (hP (o + 5) (by omega) (by omega))]
  exact h
theorem NM.cong {o : Nat} (h : NM S w o f) (e2 : T 2 = S 2) (e3 : T 3 = S 3) : NM T w o f := by
  unfold NM
  rw [e2, e3]
  exact h
theorem XN.kp {P : Nat → Prop} (h : XN S f w) (hk : Kp P w w') (hP : ∀ q, 7 ≤ q → q ≤ 34 → ¬ P q) : XN S f w' := by
  obtain ⟨a, b, s, u, h1, h2, h3, h4, h5, h6, h7, h8⟩ := h
  exact ⟨a, b, s, u, by rw [hk.R]; exact h1, by rw [hk.R]; exact h2, by rw [hk.R]; exact h3, by rw [hk.R]; exact h4, h5, h6, h7.kp hk (fun q c d => hP q (by omega) (by omega)), h8.kp hk (fun q c d => hP q (by omega) (by omega))⟩
/-- .. another rug on the same HOUSE -/
theorem XN.cong (h : XN S f w) (e2 : T 2 = S 2) (e3 : T 3 = S 3) (he : ∀ j, 10084 ≤ j → j < 10265 → T j = S j) : XN T f w := by
  obtain ⟨a, b, s, u, h1, h2, h3, h4, h5, h6, h7, h8⟩ := h
  exact ⟨a, b, s, u, h1, h2, h3, h4, h5, h6, h7.cong e2 e3, h8.cong2 e3 he⟩
theorem KX.kp {P : Nat → Prop} (h : KX fl Z g w) (hk : Kp P w w') (hP : ∀ q, q = 47 ∨ 122 ≤ q ∧ q ≤ 165 → ¬ P q) : KX fl Z g w' := by
  intro k hk2
  obtain ⟨h1, h2⟩ := h k hk2
  refine ⟨by rw [hk.I (hP 47 (Or.inl rfl))]; exact h1, fun q => ?_⟩
  obtain ⟨g1, g2, g3, g4, g5, g6⟩ := h2 q
  exact ⟨g1, g2, g3.kp hk (fun q a b => hP q (Or.inr (by omega))), g4.kp hk (fun q a b => hP q (Or.inr (by omega))), g5.kp hk (fun q a b => hP q (Or.inr (by omega))), g6.kp hk (fun q a b => hP q (Or.inr (by omega)))⟩
theorem KM.kp {P : Nat → Prop} (h : KM fl Z g w) (hk : Kp P w w') (hP : ∀ q, 188 ≤ q → q ≤ 190 → ¬ P q) : KM fl Z g w' := by
  intro k hk2
  rw [hk.I (hP 190 (by omega) (by omega)), hk.I (hP 188 (by omega) (by omega)), hk.L (hP 189 (by omega) (by omega))]
  exact h k hk2
theorem MN.kp {P : Nat → Prop} (h : MN f w) (hk : Kp P w w') (hP : ¬ P 171) : MN f w' := by
  intro i hi
  rw [hk.L hP]
  exact h i hi
theorem nar_bool {x : Int32} (h : x = 0 ∨ x = 1) : vp_nar .boolean x = x := by
  rcases h with e | e <;> subst e <;> rfl
theorem wL_sI' (w : Wd) (k j : Nat) (v : Int32) (a : Nat) : wL (sI w k j v) a = wL w a := rfl
theorem wL_rI' (w : Wd) (k : Nat) (v : Nat → Int32) (a : Nat) : wL (rI w k v) a = wL w a := rfl
theorem wI_rL' (w : Wd) (k : Nat) (v : Nat → Int64) (a : Nat) : wI (rL w k v) a = wI w a := rfl
theorem tp_stG {α : Type} {Q : α → Wd → Prop} {w : Wd} {o j : Nat} {v : Int32} {f : Wd → Option (α × Wd)} (k : ∀ w1, wI w1 o = up (wI w o) j v → Kp (fun a => a = o) w w1 → tp (f w1) Q) : tp (stI w o j v f) Q := k _ wI_up (kp0 rfl)
theorem tp_cpG {α : Type} {Q : α → Wd → Prop} {w : Wd} {o q lo lq : Nat} {n : Nat} {f : Wd → Option (α × Wd)} (hn : n < 2147483648) (h1 : n ≤ lo) (h2 : n ≤ lq) (k : ∀ w1, wI w1 q = cpN (wI w o) (wI w q) n → Kp (fun a => a = q) w w1 → tp (f w1) Q) : tp (cpI w o lo 0 q lq 0 (nI n) f) Q := tp_cpI hn h1 h2 (k _ wI_rr (Kp.rI (P := fun a => a = q) Kp.refl rfl _))
theorem tp_cpGL {α : Type} {Q : α → Wd → Prop} {w : Wd} {o q lo lq : Nat} {n : Nat} {f : Wd → Option (α × Wd)} (hn : n < 2147483648) (h1 : n ≤ lo) (h2 : n ≤ lq) (k : ∀ w1, wL w1 q = cpN (wL w o) (wL w q) n → Kp (fun a => a = q) w w1 → tp (f w1) Q) : tp (cpL w o lo 0 q lq 0 (nI n) f) Q := tp_cpL hn h1 h2 (k _ wL_rr (Kp.rL (P := fun a => a = q) Kp.refl rfl _))
theorem x_copyHouse {o0 o1 : Nat} (hF : WF S) (hR : HR S w o1) (hN : NM S w o1 f) (hd : o0 + 9 < o1 ∨ o1 + 9 < o0) : tp (sh_176 o0 o1 w) (fun _ w' => HR S w' o0 ∧ NM S w' o0 f ∧ Kp (fun q => o0 ≤ q ∧ q ≤ o0 + 9) w w') := by
  obtain ⟨P, eP, hP⟩ := hF.2.1
  obtain ⟨Y, eY, hY⟩ := hF.2.2.1
  obtain ⟨B, eB, hB⟩ := hF.2.2.2.2.1
  have hway := hF.2.2.2.2.2.2.2.2.2
  have hwall := hF.2.2.2.2.2.2.2.1
  have h0F := hF
  obtain ⟨h0, h1, h2, h3, h4, h5, h6, h7, h8, h9, h10⟩ := hR
  rw [eP, ix_nI (by omega)] at h7
  rw [eY, ix_nI (by omega)] at h10 hway
  rw [eB, ix_nI (by omega)] at h9
  unfold NM at hN
  rw [eP, eY, ix_nI (by omega), ix_nI (by omega)] at hN
  unfold sh_176
  refine tp_stG (fun w1 e1 k1 => tp_stG (fun w2 e2 k2 => tp_stG (fun w3 e3 k3 => tp_stG (fun w4 e4 k4 => tp_stG (fun w5 e5 k5 => tp_stG (fun w6 e6 k6 => tp_stG (fun w7 e7 k7 => ?_)))))))
  have K2 := k1.trans k2
  have K3 := K2.trans k3
  have K4 := K3.trans k4
  have K5 := K4.trans k5
  have K6 := K5.trans k6
  have K7 := K6.trans k7
  have no : ¬ o1 = o0 := by omega
  rw [k1.I no] at e2
  rw [K2.I no] at e3
  rw [K3.I no] at e4
  rw [K4.I no] at e5
  rw [K5.I no] at e6
  rw [K6.I no] at e7
  rw [e6, e5, e4, e3, e2, e1] at e7
  have f0 : wI w7 o0 0 = S 0 ∧ wI w7 o0 1 = S 1 ∧ wI w7 o0 3 = S 2 ∧ wI w7 o0 4 = S 3 ∧ wI w7 o0 5 = S 4 ∧ wI w7 o0 6 = S 5 ∧ wI w7 o0 2 = wI w o1 2 := by
    rw [e7]
    simp (disch := omega) only [up_s, up_o]
    exact ⟨h0, h1, h2, h3, h4, h5, trivial⟩
  clear e1 e2 e3 e4 e5 e6 e7 k1 k2 k3 k4 k5 k6 k7 K2 K3 K4 K5 K6
  refine tp_cpG (n := 6) (by decide) (by decide) (by decide) (fun w8 e8 k8 => tp_cpG (n := 6) (by decide) (by decide) (by decide) (fun w9 e9 k9 => tp_cpG (n := 6) (by decide) (by decide) (by decide) (fun w10 e10 k10 => tp_cpGL (n := 6) (by decide) (by decide) (by decide) (fun w11 e11 k11 => tp_cpGL (n := 6) (by decide) (by decide) (by decide) (fun w12 e12 k12 => tp_cpG (n := 6) (by decide) (by decide) (by decide) (fun w13 e13 k13 => tp_cpG (n := 246) (by decide) (by decide) (by decide) (fun w14 e14 k14 => tp_cpG (n := 8) (by decide) (by decide) (by decide) (fun w15 e15 k15 => ?_))))))))
  have M7 : Kp (fun q => o0 ≤ q ∧ q ≤ o0 + 9) w w7 := K7.mono (fun q hq => by omega)
  have M8 := M7.trans (k8.mono (fun q hq => by omega))
  have M9 := M8.trans (k9.mono (fun q hq => by omega))
  have M10 := M9.trans (k10.mono (fun q hq => by omega))
  have M11 := M10.trans (k11.mono (fun q hq => by omega))
  have M12 := M11.trans (k12.mono (fun q hq => by omega))
  have M13 := M12.trans (k13.mono (fun q hq => by omega))
  have M14 := M13.trans (k14.mono (fun q hq => by omega))
  have M15 := M14.trans (k15.mono (fun q hq => by omega))
  have b0 : wI w15 o0 = wI w7 o0 := by rw [k15.I (by omega), k14.I (by omega), k13.I (by omega), k12.I (by omega), k11.I (by omega), k10.I (by omega), k9.I (by omega), k8.I (by omega)]
  have b1 : ∀ k, k < 6 → wI w15 (o0 + 1) k = wI w (o1 + 1) k := fun k hk => by rw [k15.I (by omega), k14.I (by omega), k13.I (by omega), k12.I (by omega), k11.I (by omega), k10.I (by omega), k9.I (by omega), e8, cpN_i hk, M7.I (by omega)]
  have b2 : ∀ k, k < 6 → wI w15 (o0 + 2) k = wI w (o1 + 2) k := fun k hk => by rw [k15.I (by omega), k14.I (by omega), k13.I (by omega), k12.I (by omega), k11.I (by omega), k10.I (by omega), e9, cpN_i hk, M8.I (by omega)]
  have b3 : ∀ k, k < 6 → wI w15 (o0 + 3) k = wI w (o1 + 3) k := fun k hk => by rw [k15.I (by omega), k14.I (by omega), k13.I (by omega), k12.I (by omega), k11.I (by omega), e10, cpN_i hk, M9.I (by omega)]
  have b4 : ∀ k, k < 6 → wL w15 (o0 + 4) k = wL w (o1 + 4) k := fun k hk => by rw [k15.L (by omega), k14.L (by omega), k13.L (by omega), k12.L (by omega), e11, cpN_i hk, M10.L (by omega)]
  have b5 : ∀ k, k < 6 → wL w15 (o0 + 5) k = wL w (o1 + 5) k := fun k hk => by rw [k15.L (by omega), k14.L (by omega), k13.L (by omega), e12, cpN_i hk, M11.L (by omega)]
  have b6 : ∀ k, k < 6 → wI w15 (o0 + 6) k = wI w (o1 + 6) k := fun k hk => by rw [k15.I (by omega), k14.I (by omega), e13, cpN_i hk, M12.I (by omega)]
  have b7 : ∀ k, k < 246 → wI w15 (o0 + 7) k = wI w (o1 + 7) k := fun k hk => by rw [k15.I (by omega), e14, cpN_i hk, M13.I (by omega)]
  have b9 : ∀ k, k < 8 → wI w15 (o0 + 9) k = wI w (o1 + 9) k := fun k hk => by rw [e15, cpN_i hk, M14.I (by omega)]
  clear e8 e9 e10 e11 e12 e13 e14 e15 k8 k9 k10 k11 k12 k13 k14 k15 M7 M8 M9 M10 M11 M12 M13 M14
  refine tp_it (fun j s w' => s = nI j ∧ j ≤ 144 ∧ (∀ t, t < j → wI w' (o0 + 8) t = S (25 + t)) ∧ Kp (fun q => q = o0 + 8) w15 w') 144 (by omega) ⟨rfl, Nat.zero_le _, fun t ht => by omega, Kp.refl⟩ (fun j s w' hI => ?_)
  obtain ⟨e, hj, g8, gK⟩ := hI
  subst e
  refine tp_ite (fun hlt => ?_) (fun hlt => ?_)
  · have hj8 : j < 144 := (nlt_i (by omega) (by decide)).mp (show nI j < nI 144 from hlt)
    rw [ix_nI (by omega), show wI w' (o1 + 8) j = S (25 + j) by rw [gK.I (by omega), M15.I (by omega)]; exact h8 j hj8, nar_bool (hwall j hj8), nI_s]
    refine tp_gd (ib_nI hj8 (by decide)) (tp_gd (ib_nI hj8 (by decide)) (tp_stI (tp_lt (tp_on ⟨hj8, rfl, by omega, fun t ht => ?_, gK.sI rfl _ _⟩))))
    rw [wI_up]
    unfold up
    by_cases q : t = j
    · subst q; rw [if_pos rfl]
    · rw [if_neg q]; exact g8 t (by omega)
  · have hj8 : j = 144 := by
      by_cases q : j < 144
      · exact absurd (nlt q (by decide) : nI j < nI 144) hlt
      · omega
    subst hj8
    refine tp_out ⟨?_, ?_, M15.trans (gK.mono (fun q hq => by omega))⟩
    · unfold HR
      rw [eP, eY, eB, ix_nI (by omega), ix_nI (by omega), ix_nI (by omega), gK.I (k := o0) (by omega), gK.I (k := o0 + 1) (by omega), gK.I (k := o0 + 2) (by omega), gK.I (k := o0 + 3) (by omega), gK.I (k := o0 + 6) (by omega), gK.I (k := o0 + 7) (by omega), gK.I (k := o0 + 9) (by omega), b0]
      rw [eP, eY, eB] at f0
      refine ⟨f0.1, f0.2.1, f0.2.2.1, f0.2.2.2.1, f0.2.2.2.2.1, f0.2.2.2.2.2.1, by rw [f0.2.2.2.2.2.2]; exact h6, fun k hk => ?_, g8, fun k hk => ?_, fun k hk => ?_⟩
      · rw [b1 k (by omega), b2 k (by omega), b3 k (by omega)]; exact h7 k hk
      · rw [b9 k (by omega)]; exact h9 k hk
      · rw [b6 k (by omega)]
        refine ⟨(h10 k hk).1, fun i hi => ?_⟩
        obtain ⟨m, em, hm1, hm2, -⟩ := hway k hk
        have hi2 := hi
        rw [em, ix_nI (by omega)] at hi2
        rw [b7 _ (by omega)]
        exact (h10 k hk).2 i hi
    · unfold NM
      rw [eP, eY, ix_nI (by omega), ix_nI (by omega), gK.L (by omega), gK.L (by omega)]
      exact ⟨fun k hk => by rw [b4 k (by omega)]; exact hN.1 k hk, fun k hk => by rw [b5 k (by omega)]; exact hN.2 k hk⟩
theorem x_copySay {s0 s1 : Nat} (hs : SR S w s1) (hd : s0 + 3 < s1 ∨ s1 + 3 < s0) : tp (sh_177 s0 s1 w) (fun _ w' => SR S w' s0 ∧ Kp (fun q => s0 ≤ q ∧ q ≤ s0 + 3) w w') := by
  unfold sh_177
  refine tp_stI (tp_stI (tp_cpI (n := 64) (by decide) (by decide) (by decide) (tp_cpI (n := 64) (by decide) (by decide) (by decide) (tp_cpI (n := 64) (by decide) (by decide) (by decide) (tp_some ⟨?_, ?_⟩)))))
  · obtain ⟨c, D, h1, h2, h3, h4, h5, h6, h7⟩ := hs
    unfold SR
    simp (disch := omega) only [wI_rr, wI_rrow, wI_row, wI_same, wI_other]
    refine ⟨c, D, h1, h2, h3, h4, h5, h6, fun i hi => ?_⟩
    rw [cpN_i (by omega), cpN_i (by omega), cpN_i (by omega)]
    exact h7 i hi
  · exact (((((Kp.refl.sI (by omega) _ _).sI (by omega) _ _).rI (by omega) _).rI (by omega) _).rI (by omega) _)
def imgF {α : Type} (fl : Nat → α) (k : Nat) (v : α) : Nat → α := fun i => if i = k then v else fl i
def imgP (q : Nat) : Prop := q = 47 ∨ 122 ≤ q ∧ q ≤ 165
theorem imgF_s {α : Type} (fl : Nat → α) (k : Nat) (v : α) : imgF fl k v k = v := if_pos rfl
theorem imgF_o {α : Type} (fl : Nat → α) {i k : Nat} (v : α) (h : ¬ i = k) : imgF fl k v i = fl i := if_neg h
theorem two_or {p : Int32} (h : 0 ≤ p) (h2 : ¬ 2 ≤ p) : ∃ k, k < 2 ∧ p = nI k := by
  obtain ⟨k, hk, e⟩ := nI_ex h
  subst e
  rw [l2, nle_i (by decide) hk] at h2
  exact ⟨k, by omega, rfl⟩
theorem x_image_no {p : Int32} (hn : ¬ ∃ k, k < 2 ∧ p = nI k) : sh_175 0 p w = some (false, w) := by
  unfold sh_175
  by_cases h0 : 0 ≤ p
  · by_cases h2 : 2 ≤ p
    · rw [if_pos h0, if_pos h2]
    · exact absurd (two_or h0 h2) hn
  · rw [if_neg h0]
theorem y_in01 {p : Int32} (w : Wd) (hn : ¬ ∃ k, k < 2 ∧ p = nI k) : sh_199 p 0 1 w = some (false, w) := by
  rw [y_isIn]
  by_cases h0 : 0 ≤ p
  · by_cases h2 : p ≤ 1
    · obtain ⟨k, hk, e⟩ := nI_ex h0
      subst e
      rw [l1, nle_i hk (by decide)] at h2
      exact absurd ⟨k, by omega, rfl⟩ hn
    · rw [decide_eq_false h2, Bool.and_false]
  · rw [decide_eq_false h0, Bool.false_and]
theorem y_in01t {k : Nat} (w : Wd) (hk : k < 2) : sh_199 (nI k) 0 1 w = some (true, w) := by
  rw [y_isIn, decide_eq_true (n0le (by omega)), decide_eq_true (jle (j := k) (n := 1) (by omega) (by decide))]
  rfl
theorem y_image_no {p : Int32} (hn : ¬ ∃ k, k < 2 ∧ p = nI k) : sh_283 166 p w = some (false, sI w 166 0 0) := by
  unfold sh_283
  rw [stI_s, cl_e (y_in01 _ hn), if_neg (by decide)]
theorem x_image (h : XG S w) (hN : XN S f w) (hK : KX fl Z g w) {k : Nat} (hk : k < 2) : tp (sh_175 0 (nI k) w) (fun v w' => v = true ∧ KX (imgF fl k true) (imgF Z k S) (imgF g k f) w' ∧ Kp imgP w w') := by
  obtain ⟨hF, hW, hr, a, ha, h7, hR⟩ := h
  obtain ⟨a', b, s, u, h1, h2, h3, h4, h5, h6, hM, hs⟩ := hN
  have : a' = a := by rw [ha] at h1; exact (Option.some.inj h1).symm
  subst this
  have hib : ib (nI k) 2 = true := ib_nI hk (by decide)
  unfold sh_175
  rw [ix_nI (by omega)]
  refine tp_if (n0le (by omega)) (tp_ifn (by rw [l2, nle_i (by decide) (by omega)]; omega) (tp_gd hib (tp_gd hib (tp_gd hib (tp_der ha (tp_cl (x_copyHouse hF hR hM (by omega)) (fun _ w1 g1 => ?_)))))))
  obtain ⟨g1a, g1b, g1k⟩ := g1
  rw [Nat.zero_add]
  refine tp_cl (x_copyRug (hr.kp g1k (fun q a b => by omega)) (by omega)) (fun _ w2 g2 => ?_)
  obtain ⟨g2a, g2k⟩ := g2
  refine tp_der (by rw [g2k.R, g1k.R]; exact h3) (tp_cl (x_copySay ((hs.kp g1k (fun q a b => by omega)).kp g2k (fun q a b => by omega)) (by omega)) (fun _ w3 g3 => ?_))
  obtain ⟨g3a, g3k⟩ := g3
  have k13 : Kp (fun q => 122 + 22 * k ≤ q ∧ q ≤ 143 + 22 * k) w w3 := ((g1k.mono (fun q hq => by omega)).trans (g2k.mono (fun q hq => by omega))).trans (g3k.mono (fun q hq => by omega))
  have k4 : Kp (fun q => q = 47) w3 (sI w3 47 k 1) := kp0 rfl
  refine tp_gd hib (tp_stI (tp_some ⟨rfl, fun i hi => ?_, ((k13.mono (fun q hq => by unfold imgP; omega)).trans (k4.mono (fun q hq => by unfold imgP; omega)))⟩))
  rw [show 0 + 47 = 47 from rfl]
  by_cases q : i = k
  · subst q
    refine ⟨by rw [wI_same, imgF_s]; rfl, fun _ => ?_⟩
    rw [imgF_s, imgF_s]
    exact ⟨hF, hW, ((g1a.kp g2k (fun q a b => by omega)).kp g3k (fun q a b => by omega)).kp k4 (fun q a b => by omega), (g2a.kp g3k (fun q a b => by omega)).kp k4 (fun q a b => by omega), g3a.kp k4 (fun q a b => by omega), ((g1b.kp g2k (fun q a b => by omega)).kp g3k (fun q a b => by omega)).kp k4 (fun q a b => by omega)⟩
  · obtain ⟨e, hk'⟩ := hK i hi
    rw [imgF_o _ _ q, imgF_o _ _ q, imgF_o _ _ q, wI_other q, k13.I (by omega)]
    refine ⟨e, fun hfl => ?_⟩
    obtain ⟨c1, c2, c3, c4, c5, c6⟩ := hk' hfl
    exact ⟨c1, c2, (c3.kp k13 (fun q a b => by omega)).kp k4 (fun q a b => by omega), (c4.kp k13 (fun q a b => by omega)).kp k4 (fun q a b => by omega), (c5.kp k13 (fun q a b => by omega)).kp k4 (fun q a b => by omega), (c6.kp k13 (fun q a b => by omega)).kp k4 (fun q a b => by omega)⟩
theorem wL_up {w : Wd} {k j i : Nat} {v : Int64} : wL (sL w k j v) k i = if i = j then v else wL w k i := by
  rw [wL_sL]
  by_cases h : i = j
  · rw [if_pos h, if_pos ⟨rfl, h⟩]
  · rw [if_neg h, if_neg (fun q => h q.2)]
theorem y_image (hS : wI w 168 = S) (hN : MN f w) (hK : KM fl Z g w) {k : Nat} (hk : k < 2) : tp (sh_283 166 (nI k) w) (fun v w' => v = true ∧ KM (imgF fl k true) (imgF Z k S) (imgF g k f) w' ∧ Kp (fun q => q = 166 ∨ 188 ≤ q ∧ q ≤ 190) w w' ∧ Fm (fun j => j = 0) w w') := by
  unfold sh_283
  refine tp_stI (tp_ce (y_in01t _ hk) (tp_if rfl ?_))
  refine tp_it (fun j s w' => s = nI j ∧ j ≤ 10265 ∧ (∀ i, i < j → wI w' 188 (10265 * k + i) = S i) ∧ (∀ i, (i < 10265 * k ∨ 10265 * k + 10265 ≤ i) → wI w' 188 i = wI w 188 i) ∧ Kp (fun q => q = 166 ∨ q = 188) w w' ∧ Fm (fun j => j = 0) w w') 10265 (by omega) ⟨rfl, Nat.zero_le _, fun i hi => by omega, fun i _ => by rw [wI_row (by decide)], kp0 (Or.inl rfl), fun j hj => wI_other hj⟩ (fun j s w' hI => ?_)
  obtain ⟨e, hj, g1, g2, g3, g4⟩ := hI
  subst e
  refine tp_ite (fun hlt => ?_) (fun hlt => ?_)
  · have hj8 : j < 10265 := (nlt_i (by omega) (by decide)).mp (show nI j < nI 10265 from hlt)
    rw [show (10265 : Int32) = nI 10265 from rfl, nI_m, nI_p, ix_nI (by omega), ix_nI (by omega), nI_s, show wI w' (166 + 2) j = S j by rw [g3.I (by omega)]; exact congrFun hS j]
    refine tp_gd (ib_nI hj8 (by decide)) (tp_gd (ib_nI (by omega) (by decide)) (tp_stI (tp_lt (tp_on ⟨hj8, rfl, by omega, fun i hi => ?_, fun i hi => ?_, g3.sI (by omega) _ _, fun i hi => by rw [wI_row (by omega)]; exact g4 i hi⟩))))
    · rw [show 166 + 22 = 188 from rfl, wI_up]
      by_cases q : i = j
      · subst q; rw [up_s]
      · rw [up_o (by omega)]; exact g1 i (by omega)
    · rw [show 166 + 22 = 188 from rfl, wI_up, up_o (by omega)]; exact g2 i hi
  · have hj8 : j = 10265 := by
      by_cases q : j < 10265
      · exact absurd (nlt q (by decide) : nI j < nI 10265) hlt
      · omega
    subst hj8
    refine tp_it (fun j s w'' => s = nI j ∧ j ≤ 12 ∧ (∀ i, i < j → wL w'' 189 (12 * k + i) = f i) ∧ (∀ i, (i < 12 * k ∨ 12 * k + 12 ≤ i) → wL w'' 189 i = wL w' 189 i) ∧ Kp (fun q => q = 189) w' w'') 12 (by omega) ⟨rfl, Nat.zero_le _, fun i hi => by omega, fun i _ => rfl, Kp.refl⟩ (fun j s w'' hI => ?_)
    obtain ⟨e, hj, q1, q2, q3⟩ := hI
    subst e
    refine tp_ite (fun hlt => ?_) (fun hlt => ?_)
    · have hj8 : j < 12 := (nlt_i (by omega) (by decide)).mp (show nI j < nI 12 from hlt)
      rw [l12, nI_m, nI_p, ix_nI (by omega), ix_nI (by omega), nI_s, show wL w'' (166 + 5) j = f j by rw [q3.L (by omega), g3.L (by omega)]; exact hN j hj8]
      refine tp_gd (ib_nI (by omega) (by decide)) (tp_gd (ib_nI (by omega) (by decide)) (tp_stL (tp_lt (tp_on ⟨hj8, rfl, by omega, fun i hi => ?_, fun i hi => ?_, q3.sL (by omega) _ _⟩))))
      · rw [show 166 + 23 = 189 from rfl, wL_up]
        by_cases q : i = j
        · subst q; rw [if_pos rfl]
        · rw [if_neg (by omega)]; exact q1 i (by omega)
      · rw [show 166 + 23 = 189 from rfl, wL_up, if_neg (by omega)]; exact q2 i hi
    · have hj8 : j = 12 := by
        by_cases q : j < 12
        · exact absurd (nlt q (by decide) : nI j < nI 12) hlt
        · omega
      subst hj8
      rw [ix_nI (by omega)]
      refine tp_gd (ib_nI hk (by decide)) (tp_stI (tp_oout ⟨rfl, fun i hi => ?_, ((g3.mono (fun q hq => by omega)).trans (q3.mono (fun q hq => by omega))).sI (by omega) _ _, fun j hj => ?_⟩))
      · rw [show 166 + 24 = 190 from rfl, wI_row (show ¬ 188 = 190 by decide), q3.I (by omega), show wL (sI w'' 190 k 1) 189 = wL w'' 189 from rfl]
        by_cases q : i = k
        · subst q
          rw [imgF_s, imgF_s, imgF_s, wI_same]
          exact ⟨rfl, fun _ => ⟨g1, q1⟩⟩
        · rw [imgF_o _ _ q, imgF_o _ _ q, imgF_o _ _ q, wI_other q, q3.I (by omega), g3.I (by omega)]
          obtain ⟨c1, c2⟩ := hK i hi
          refine ⟨c1, fun hfl => ⟨fun j hj => ?_, fun j hj => ?_⟩⟩
          · rw [g2 _ (by omega)]; exact (c2 hfl).1 j hj
          · rw [q2 _ (by omega), g3.L (by omega)]; exact (c2 hfl).2 j hj
      · rw [wI_row (by omega), q3.I (by omega)]; exact g4 j hj
/-- the row that comes back -/
def rstS (S U : Nat → Int32) : Nat → Int32 := fun i => if i < 10265 then U i else S i
theorem rst_lo {U : Nat → Int32} {i : Nat} (h : i < 10265) : rstS S U i = U i := if_pos h
theorem x_restore_no (hK : KX fl Z g w) {p : Int32} (hn : ¬ ∃ k, k < 2 ∧ p = nI k ∧ fl k = true) : sh_178 0 p w = some (false, w) := by
  unfold sh_178
  by_cases h0 : 0 ≤ p
  · rw [if_pos h0]
    by_cases h2 : p < 2
    · obtain ⟨k, hk, e⟩ := nI_ex h0
      subst e
      have hk2 : k < 2 := by rw [l2, nlt_i hk (by decide)] at h2; exact h2
      rw [if_pos h2, gd_nI hk2 (by decide), ix_nI (by omega), Nat.zero_add, (hK k hk2).1]
      cases hfl : fl k with
      | true => exact absurd ⟨k, hk2, rfl, hfl⟩ hn
      | false => rw [if_pos (show bi false = 0 from rfl)]
    · rw [if_neg h2]
  · rw [if_neg h0]
theorem y_restore_no (hK : KM fl Z g w) {p : Int32} (hn : ¬ ∃ k, k < 2 ∧ p = nI k ∧ fl k = true) : sh_284 166 p w = some (false, sI w 166 0 0) := by
  unfold sh_284
  rw [stI_s]
  by_cases h : ∃ k, k < 2 ∧ p = nI k
  · obtain ⟨k, hk2, e⟩ := h
    subst e
    rw [cl_e (y_in01t _ hk2), if_pos rfl, gd_nI hk2 (by decide), ix_nI (by omega), wI_row (by decide), show wI w (166 + 24) k = bi (fl k) from (hK k hk2).1]
    cases hfl : fl k with
    | true => exact absurd ⟨k, hk2, rfl, hfl⟩ hn
    | false => rw [if_pos (show bi false = 0 from rfl)]
  · rw [cl_e (y_in01 _ h), if_neg (by decide)]
def rstP (q : Nat) : Prop := q = 0 ∨ 7 ≤ q ∧ q ≤ 42
theorem x_restore (h : XG S w) (hN : XN S f w) (hU : XU us n w) (hK : KX fl Z g w) {k : Nat} (hk : k < 2) (hfl : fl k = true) : tp (sh_178 0 (nI k) w) (fun v w' => v = true ∧ XG (rstS S (Z k)) w' ∧ XN (rstS S (Z k)) (g k) w' ∧ XU us 0 w' ∧ KX fl Z g w' ∧ Kp rstP w w') := by
  obtain ⟨hF, hW, hr, a, ha, h7, hR⟩ := h
  obtain ⟨a', b, s, u, h1, h2, h3, h4, h5, h6, hM, hs⟩ := hN
  have : a' = a := by rw [ha] at h1; exact (Option.some.inj h1).symm
  subst this
  obtain ⟨e47, hk'⟩ := hK k hk
  obtain ⟨c1, c2, c3, c4, c5, c6⟩ := hk' hfl
  have hib : ib (nI k) 2 = true := ib_nI hk (by decide)
  unfold sh_178
  rw [ix_nI (by omega)]
  refine tp_if (n0le (by omega)) (tp_if (by rw [l2, nlt_i (by omega) (by decide)]; exact hk) (tp_gd hib (tp_ifn (by rw [Nat.zero_add, e47, hfl]; decide) (tp_gd hib (tp_gd hib (tp_gd hib (tp_der ha (tp_cl (x_copyHouse c1 c3 c6 (by omega)) (fun _ w1 g1 => ?_)))))))))
  obtain ⟨g1a, g1b, g1k⟩ := g1
  rw [Nat.zero_add]
  refine tp_cl (x_copyRug (c4.kp g1k (fun q a b => by omega)) (by omega)) (fun _ w2 g2 => ?_)
  obtain ⟨g2a, g2k⟩ := g2
  refine tp_der (by rw [g2k.R, g1k.R]; exact h3) (tp_cl (x_copySay ((c5.kp g1k (fun q a b => by omega)).kp g2k (fun q a b => by omega)) (by omega)) (fun _ w3 g3 => ?_))
  obtain ⟨g3a, g3k⟩ := g3
  have k13 : Kp (fun q => 7 ≤ q ∧ q ≤ 42) w w3 := ((g1k.mono (fun q hq => by omega)).trans (g2k.mono (fun q hq => by omega))).trans (g3k.mono (fun q hq => by omega))
  have k4 : Kp (fun q => q = 0) w3 (sI w3 0 9 0) := kp0 rfl
  have lo : ∀ j, j < 10265 → rstS S (Z k) j = Z k j := fun j hj => rst_lo hj
  have hW' : WR (rstS S (Z k)) := c2.cong (fun j hj _ => lo j (by omega))
  refine tp_stI (tp_some ⟨rfl, ⟨c1.cong (fun j hj => lo j (by omega)), hW', ?_, a', ?_, h7, ?_⟩, ⟨a', b, s, u, ?_, ?_, ?_, ?_, h5, h6, ?_, ?_⟩, ?_, ?_, ?_⟩)
  · exact ((g2a.kp g3k (fun q a b => by omega)).kp k4 (fun q a b => by omega)).cong (fun j hj => lo j (by omega))
  · rw [k4.R, k13.R]; exact ha
  · exact (((g1a.kp g2k (fun q a b => by omega)).kp g3k (fun q a b => by omega)).kp k4 (fun q a b => by omega)).cong c1 (fun j hj => lo j (by omega))
  · rw [k4.R, k13.R]; exact ha
  · rw [k4.R, k13.R]; exact h2
  · rw [k4.R, k13.R]; exact h3
  · rw [k4.R, k13.R]; exact h4
  · exact (((g1b.kp g2k (fun q a b => by omega)).kp g3k (fun q a b => by omega)).kp k4 (fun q a b => by omega)).cong (lo 2 (by omega)) (lo 3 (by omega))
  · exact (g3a.kp k4 (fun q a b => by omega)).cong2 (lo 3 (by omega)) (fun j _ hj => lo j hj)
  · obtain ⟨-, o, ho, e9, e8, -⟩ := hU
    exact ⟨by omega, o, ho, wI_same, by rw [wI_other (by decide), k13.I (by omega)]; exact e8, fun m hm => by omega⟩
  · exact (hK.kp k13 (fun q hq => by omega)).kp k4 (fun q hq => by omega)
  · exact (k13.mono (fun q hq => by unfold rstP; omega)).trans (k4.mono (fun q hq => by unfold rstP; omega))
theorem y_restore (hS : wI w 168 = S) (hK : KM fl Z g w) {k : Nat} (hk : k < 2) (hfl : fl k = true) : tp (sh_284 166 (nI k) w) (fun v w' => v = true ∧ wI w' 168 = rstS S (Z k) ∧ MN (g k) w' ∧ MU us 0 w' ∧ Kp (fun q => q = 166 ∨ q = 168 ∨ q = 171) w w' ∧ Fm (fun j => j = 0 ∨ j = 23) w w') := by
  obtain ⟨e190, hk'⟩ := hK k hk
  obtain ⟨c1, c2⟩ := hk' hfl
  unfold sh_284
  refine tp_stI (tp_ce (y_in01t _ hk) (tp_if rfl ?_))
  rw [ix_nI (by omega), wI_row (by decide), show wI w (166 + 24) k = bi (fl k) from e190, hfl]
  refine tp_gd (ib_nI hk (by decide)) (tp_ifn (by decide) ?_)
  refine tp_it (fun j s w' => s = nI j ∧ j ≤ 10265 ∧ (∀ i, i < j → wI w' 168 i = Z k i) ∧ (∀ i, 10265 ≤ i → wI w' 168 i = S i) ∧ Kp (fun q => q = 166 ∨ q = 168) w w' ∧ Fm (fun j => j = 0) w w') 10265 (by omega) ⟨rfl, Nat.zero_le _, fun i hi => by omega, fun i _ => by rw [wI_row (by decide)]; exact congrFun hS i, kp0 (Or.inl rfl), fun j hj => wI_other hj⟩ (fun j s w' hI => ?_)
  obtain ⟨e, hj, g1, g2, g3, g4⟩ := hI
  subst e
  refine tp_ite (fun hlt => ?_) (fun hlt => ?_)
  · have hj8 : j < 10265 := (nlt_i (by omega) (by decide)).mp (show nI j < nI 10265 from hlt)
    rw [show (10265 : Int32) = nI 10265 from rfl, nI_m, nI_p, ix_nI (by omega), ix_nI (by omega), nI_s, show wI w' (166 + 22) (10265 * k + j) = Z k j by rw [g3.I (by omega)]; exact c1 j hj8]
    refine tp_gd (ib_nI (by omega) (by decide)) (tp_gd (ib_nI hj8 (by decide)) (tp_stI (tp_lt (tp_on ⟨hj8, rfl, by omega, fun i hi => ?_, fun i hi => ?_, g3.sI (by omega) _ _, fun i hi => by rw [wI_row (by omega)]; exact g4 i hi⟩))))
    · rw [show 166 + 2 = 168 from rfl, wI_up]
      by_cases q : i = j
      · subst q; rw [up_s]
      · rw [up_o (by omega)]; exact g1 i (by omega)
    · rw [show 166 + 2 = 168 from rfl, wI_up, up_o (by omega)]; exact g2 i hi
  · have hj8 : j = 10265 := by
      by_cases q : j < 10265
      · exact absurd (nlt q (by decide) : nI j < nI 10265) hlt
      · omega
    subst hj8
    refine tp_it (fun j s w'' => s = nI j ∧ j ≤ 12 ∧ (∀ i, i < j → wL w'' 171 i = g k i) ∧ Kp (fun q => q = 171) w' w'') 12 (by omega) ⟨rfl, Nat.zero_le _, fun i hi => by omega, Kp.refl⟩ (fun j s w'' hI => ?_)
    obtain ⟨e, hj, q1, q3⟩ := hI
    subst e
    refine tp_ite (fun hlt => ?_) (fun hlt => ?_)
    · have hj8 : j < 12 := (nlt_i (by omega) (by decide)).mp (show nI j < nI 12 from hlt)
      rw [l12, nI_m, nI_p, ix_nI (by omega), ix_nI (by omega), nI_s, show wL w'' (166 + 23) (12 * k + j) = g k j by rw [q3.L (by omega), g3.L (by omega)]; exact c2 j hj8]
      refine tp_gd (ib_nI (by omega) (by decide)) (tp_gd (ib_nI (by omega) (by decide)) (tp_stL (tp_lt (tp_on ⟨hj8, rfl, by omega, fun i hi => ?_, q3.sL (by omega) _ _⟩))))
      rw [show 166 + 5 = 171 from rfl, wL_up]
      by_cases q : i = j
      · subst q; rw [if_pos rfl]
      · rw [if_neg q]; exact q1 i (by omega)
    · have hj8 : j = 12 := by
        by_cases q : j < 12
        · exact absurd (nlt q (by decide) : nI j < nI 12) hlt
        · omega
      subst hj8
      refine tp_stI (tp_oout ⟨rfl, ?_, q1, ⟨wI_same, fun m hm => by omega⟩, ((g3.mono (fun q hq => by omega)).trans (q3.mono (fun q hq => by omega))).sI (by omega) _ _, fun j hj => ?_⟩)
      · rw [wI_row (by decide), q3.I (by omega)]
        funext i
        unfold rstS
        by_cases q : i < 10265
        · rw [if_pos q]; exact g1 i q
        · rw [if_neg q]; exact g2 i (by omega)
      · rw [wI_other (fun z => hj (Or.inr z)), q3.I (by omega)]
        exact g4 j (fun z => hj (Or.inl z))
end IM
