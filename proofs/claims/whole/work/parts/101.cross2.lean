/-! crossing: the reference -/
def sN (c : Nat → Nat) : Nat → Nat
  | 0 => 0
  | n + 1 => sN c n + c n
theorem sN_c {c c' : Nat → Nat} {n : Nat} (h : ∀ i, i < n → c i = c' i) : sN c n = sN c' n := by
  induction n with
  | zero => rfl
  | succ n ih => unfold sN; rw [ih (fun i hi => h i (by omega)), h n (by omega)]
theorem sN_up {c : Nat → Nat} {k v n : Nat} (hk : k < n) (hv : v < c k) : sN (upN c k v) n < sN c n := by
  induction n with
  | zero => omega
  | succ n ih =>
    unfold sN
    by_cases q : k = n
    · subst q
      rw [upN_s, sN_c (c := upN c k v) (c' := c) (fun i hi => upN_o c v (by omega))]
      omega
    · rw [upN_o c v (fun z => q z.symm)]
      have := ih (by omega)
      omega
theorem sN_le {c : Nat → Nat} {b n : Nat} (h : ∀ i, i < n → c i ≤ b) : sN c n ≤ b * n := by
  induction n with
  | zero => exact Nat.zero_le _
  | succ n ih =>
    unfold sN
    have h1 := ih (fun i hi => h i (by omega))
    have h2 := h n (by omega)
    rw [Nat.mul_succ]
    omega
section CM
variable {S : Nat → Int32} {w : Wd} {o p f : Nat}
/-- what the reference holds, K = 1000 WEIGHTs -/
def BJ (S : Nat → Int32) (p f K : Nat) (c : Nat → Nat) : Prop :=
  (∀ t, t < 144 → c t ≤ 1000000000) ∧ (∀ t, t < 144 → c t < 1000000000 → frT S t ∧ ∃ n m, c t = K * m + n ∧ wkN S p f n m t) ∧ c f ≤ K * mkN S p f
/-- all STEPS on from u told -/
def tgt (S : Nat → Int32) (p K : Nat) (c : Nat → Nat) (u k : Nat) : Prop := c u < 1000000000 → ∀ v d, d < k → beN S u d = some v → frT S v → c v ≤ c u + K * mkN S p v + 1
theorem BJ.fin (hF : WF S) {K t : Nat} (hK : 1000 ≤ K) (hK9 : K ≤ 9000) {c : Nat → Nat} (hf : f < 144) (ht : t < 144) (hB : BJ S p f K c) (hT : ∀ u, u < 144 → tgt S p K c u 4) {q : Option (Nat × Nat)} (hq : crSpec S p f t q) : match q with
    | none => c t = 1000000000
    | some r => c t = K * r.1 + r.2 ∧ c t < 1000000000 := by
  obtain ⟨b1, b2, b3⟩ := hB
  have hmf := mkN_le S p f
  have key : ∀ n m v, wkN S p f n m v → c v ≤ K * m + n := by
    intro n
    induction n with
    | zero =>
      intro m v hw
      obtain ⟨e1, e2⟩ := hw
      rw [e1, e2]
      omega
    | succ n ih =>
      intro m v hw
      obtain ⟨u, m', hw', he, em⟩ := hw
      have hu := wk_lt hF hf hw'
      have hv := he.lt hF
      have h1 := ih m' u hw'
      have h2 := b1 v hv
      have h3 := b1 u hu
      have eK : K * m = K * m' + K * mkN S p v := by rw [em, Nat.mul_add]
      obtain ⟨d, hd, e, ho⟩ := he
      by_cases hc : c u < 1000000000
      · have := hT u hu hc v d hd e ho
        omega
      · omega
  cases q with
  | none =>
    show c t = 1000000000
    have h1 := b1 t ht
    by_cases hc : c t < 1000000000
    · obtain ⟨-, n, m, -, hw⟩ := b2 t ht hc
      exact absurd hw (hq n m)
    · omega
  | some r =>
    obtain ⟨h1, h2, h3, h4⟩ := hq
    have h5 := key _ _ _ h3
    have h6 : K * r.1 ≤ 9000 * 145 := Nat.mul_le_mul hK9 h2
    have hc : c t < 1000000000 := by omega
    obtain ⟨-, n, m, e, hw⟩ := b2 t ht hc
    have h7 := h4 K hK n m hw
    exact ⟨by omega, hc⟩
theorem y_signOf (hF : WF S) (hS : wI w (o + 2) = S) {W t : Nat} (hp : p < ix (S 2)) (ht : t < 144) (eW : S (7 + p) = nI W) : sh_250 o (nI p) (nI t) w = some (nI (W * mkN S p t), w) := by
  have hp6 := hF.p6 hp
  unfold sh_250 mkN
  rw [l436, l4, l1, l13, l7, nI_m, nI_p, nI_p, nI_p, nI_p, gd_nI (by omega) (by decide), gd_nI (by omega) (by decide), gd_nI (by omega) (by decide), gd_nI (by omega) (by decide), hS, ix_nI (by omega), ix_nI (by omega), ix_nI (by omega), ix_nI (by omega), show 436 + 4 * t + 1 = 437 + 4 * t by omega, eW]
  by_cases h1 : 0 < S (436 + 4 * t)
  · rw [if_pos h1]
    by_cases h2 : S (437 + 4 * t) = S (13 + p)
    · rw [if_pos h2, if_pos ⟨decide_eq_true h1, h2⟩]; rfl
    · rw [if_neg h2, if_neg (fun z => h2 z.2), Nat.mul_one]
  · rw [if_neg h1, if_neg (fun z => h1 (of_decide_eq_true z.1)), Nat.mul_one]
theorem y_cross_no (hF : WF S) (hS : wI w (o + 2) = S) {x y z : Int32} (hn : ¬ (isK S 2 x = true ∧ frB S y = true ∧ frB S z = true)) : sh_249 o x y z w = some (-1, w) := by
  unfold sh_249
  rw [cl_e (y_isPerson hF hS x)]
  by_cases h1 : isK S 2 x = true
  · rw [if_pos h1, cl_e (y_isTuft hS y)]
    by_cases h2 : isT S y = true
    · rw [if_pos h2, cl_e (y_isTuft hS z)]
      by_cases h3 : isT S z = true
      · rw [if_pos h3]
        obtain ⟨a, ea, ha, hoa⟩ := isT_t hF h2
        obtain ⟨b, eb, hb, hob⟩ := isT_t hF h3
        subst ea; subst eb
        rw [l25, nI_p, nI_p, gd_nI (by omega) (by decide), gd_nI (by omega) (by decide), ix_nI (by omega), ix_nI (by omega), hS]
        by_cases h4 : S (25 + a) = 1
        · rw [if_pos h4]
        · rw [if_neg h4]
          by_cases h5 : S (25 + b) = 1
          · rw [if_pos h5]
          · have f1 : frT S a := ⟨hoa, by rcases hF.2.2.2.2.2.2.2.1 a ha with q | q; exact q; exact absurd q h4⟩
            have f2 : frT S b := ⟨hob, by rcases hF.2.2.2.2.2.2.2.1 b hb with q | q; exact q; exact absurd q h5⟩
            exact absurd ⟨h1, frB_of hF f1, frB_of hF f2⟩ hn
      · rw [if_neg h3]
    · rw [if_neg h2]
  · rw [if_neg h1]
/-- the number that shows the crossing -/
def crV (K : Nat) (q : Option (Nat × Nat)) : Int32 := match q with
  | none => -1
  | some r => nI (K * r.1 + r.2)
theorem y_cross (hF : WF S) (hS : wI w (o + 2) = S) {W t : Nat} (hp : p < ix (S 2)) (hf : frT S f) (ht : frT S t) (eW : S (7 + p) = nI W) (hW1 : 1 ≤ W) (hW9 : W ≤ 9) {q : Option (Nat × Nat)} (hq : crSpec S p f t q) : tp (sh_249 o (nI p) (nI f) (nI t) w) (fun v w' => v = crV (1000 * W) q ∧ Kp (fun q => q = o + 12) w w') := by
  have hf8 := hf.1.lt hF
  have ht8 := ht.1.lt hF
  have hp6 := hF.p6 hp
  have hmf := mkN_le S p f
  obtain ⟨K, eK⟩ : ∃ K, K = 1000 * W := ⟨_, rfl⟩
  rw [← eK]
  unfold sh_249
  refine tp_ce (y_isPerson hF hS _) (tp_if (isK_of hF hp) (tp_ce (y_isTuft hS _) (tp_if (isT_of hF hf.1) (tp_ce (y_isTuft hS _) (tp_if (isT_of hF ht.1) ?_)))))
  rw [l25, nI_p, nI_p, ix_nI (by omega), ix_nI (by omega), hS, hf.2, ht.2]
  refine tp_gd (ib_nI (by omega) (by decide)) (tp_ifn (by decide) (tp_gd (ib_nI (by omega) (by decide)) (tp_ifn (by decide) ?_)))
  refine tp_it (fun j s w' => s = nI j ∧ j ≤ 144 ∧ (∀ t, t < j → wI w' (o + 12) t = nI 1000000000) ∧ Kp (fun q => q = o + 12) w w') 144 (by omega) ⟨rfl, Nat.zero_le _, fun t ht => by omega, Kp.refl⟩ (fun j s w' hI => ?_)
  obtain ⟨e, hj, g1, gK⟩ := hI
  subst e
  refine tp_ite (fun hlt => ?_) (fun hlt => ?_)
  · have hj8 : j < 144 := (nlt_i (by omega) (by decide)).mp (show nI j < nI 144 from hlt)
    rw [ix_nI (by omega), nI_s]
    refine tp_gd (ib_nI hj8 (by decide)) (tp_stI (tp_lt (tp_on ⟨hj8, rfl, by omega, fun t ht => ?_, gK.sI rfl _ _⟩)))
    rw [wI_up]
    unfold up
    by_cases q : t = j
    · rw [if_pos q]; rfl
    · rw [if_neg q]; exact g1 t (by omega)
  · have hj8 : j = 144 := by
      by_cases q : j < 144
      · exact absurd (nlt q (by decide) : nI j < nI 144) hlt
      · omega
    subst hj8
    have hS1 : wI w' (o + 2) = S := by rw [gK.I (by omega)]; exact hS
    have hKm : ∀ x, x ≤ 1 → W * x ≤ 9 ∧ 1000 * (W * x) = K * x := fun x hx => by
      have h1 := Nat.mul_le_mul hW9 hx
      exact ⟨by omega, by rw [eK, Nat.mul_assoc]⟩
    refine tp_ce (y_signOf hF hS1 hp hf8 eW) ?_
    rw [show (1000 : Int32) = nI 1000 from rfl, nI_m, (hKm _ hmf).2, ix_nI (by omega)]
    refine tp_gd (ib_nI hf8 (by decide)) (tp_stI ?_)
    have hkf := hKm _ hmf
    have bj0 : BJ S p f K (upN (fun _ => 1000000000) f (K * mkN S p f)) := by
      refine ⟨fun t ht => ?_, fun t ht hc => ?_, by rw [upN_s]; exact Nat.le_refl _⟩
      · by_cases q : t = f
        · subst q; rw [upN_s]; omega
        · rw [upN_o _ _ q]; exact Nat.le_refl _
      · by_cases q : t = f
        · subst q
          exact ⟨hf, 0, mkN S p t, by rw [upN_s]; rfl, rfl, rfl⟩
        · rw [upN_o _ _ q] at hc; omega
    refine tp_it (fun j s w'' => ∃ c, BJ S p f K c ∧ (∀ t, t < 144 → wI w'' (o + 12) t = nI (c t)) ∧ Kp (fun q => q = o + 12) w w'' ∧ ((s = nI 1 ∧ sN c 144 + j ≤ 144000000000) ∨ (s = nI 0 ∧ ∀ u, u < 144 → tgt S p K c u 4))) 144000000001 (by omega) ⟨_, bj0, fun t ht => ?_, gK.sI rfl _ _, Or.inl ⟨rfl, by have := sN_le (n := 144) bj0.1; omega⟩⟩ (fun j s w'' hI => ?_)
    · rw [wI_up]
      unfold up upN
      by_cases q : t = f
      · rw [if_pos q, if_pos q]
      · rw [if_neg q, if_neg q]; exact g1 t ht
    obtain ⟨c, hB, k1, kK, hs⟩ := hI
    rcases hs with ⟨es, hsum⟩ | ⟨es, htg⟩
    · subst es
      refine tp_ifn (by decide) ?_
      refine tp_it (fun i s w1 => ∃ l c', s = (nI l, nI i) ∧ i ≤ 144 ∧ BJ S p f K c' ∧ (∀ t, t < 144 → wI w1 (o + 12) t = nI (c' t)) ∧ Kp (fun q => q = o + 12) w w1 ∧ sN c' 144 ≤ sN c 144 ∧ ((l = 1 ∧ sN c' 144 < sN c 144) ∨ (l = 0 ∧ ∀ u, u < i → tgt S p K c' u 4))) 144 (by omega) ⟨0, c, rfl, Nat.zero_le _, hB, k1, kK, Nat.le_refl _, Or.inr ⟨rfl, fun u hu => by omega⟩⟩ (fun i s w1 hI => ?_)
      obtain ⟨l, c', e, hi, hB', m1, mK, hle, hl⟩ := hI
      subst e
      refine tp_ite (fun hlt => ?_) (fun hlt => ?_)
      · have hi8 : i < 144 := (nlt_i (by omega) (by decide)).mp (show nI i < nI 144 from hlt)
        refine tp_it (fun d s w2 => ∃ l c1, s = (nI l, nI d) ∧ d ≤ 4 ∧ BJ S p f K c1 ∧ (∀ t, t < 144 → wI w2 (o + 12) t = nI (c1 t)) ∧ Kp (fun q => q = o + 12) w w2 ∧ sN c1 144 ≤ sN c 144 ∧ ((l = 1 ∧ sN c1 144 < sN c 144) ∨ (l = 0 ∧ (∀ u, u < i → tgt S p K c1 u 4) ∧ tgt S p K c1 i d))) 4 (by omega) ⟨l, c', rfl, Nat.zero_le _, hB', m1, mK, hle, ?_⟩ (fun d s w2 hI => ?_)
        · rcases hl with hl | ⟨hl, ht⟩
          · exact Or.inl hl
          · exact Or.inr ⟨hl, ht, fun _ v d hd => by omega⟩
        clear hB' m1 mK hle hl
        obtain ⟨l, c1, e, hd, hB1, m1, mK, hle, hl⟩ := hI
        subst e
        obtain ⟨b1, b2, b3⟩ := hB1
        have hB1 : BJ S p f K c1 := ⟨b1, b2, b3⟩
        have out : (d = 4 ∨ ¬ c1 i < 1000000000) → tp (lt (nI i + 1 : Int32) (fun v5_50 => some ((.inr (.inl (nI l, v5_50)) : (Int32 × Int32) ⊕ ((Int32 × Int32) ⊕ (Int32 ⊕ (Int32 ⊕ Int32)))), w2))) (lpQ (fun s' w2 => d < 4 ∧ ∃ l c1, s' = (nI l, nI (d + 1)) ∧ d + 1 ≤ 4 ∧ BJ S p f K c1 ∧ (∀ t, t < 144 → wI w2 (o + 12) t = nI (c1 t)) ∧ Kp (fun q => q = o + 12) w w2 ∧ sN c1 144 ≤ sN c 144 ∧ ((l = 1 ∧ sN c1 144 < sN c 144) ∨ (l = 0 ∧ (∀ u, u < i → tgt S p K c1 u 4) ∧ tgt S p K c1 i (d + 1)))) (lpQ (fun s' w1 => i < 144 ∧ ∃ l c', s' = (nI l, nI (i + 1)) ∧ i + 1 ≤ 144 ∧ BJ S p f K c' ∧ (∀ t, t < 144 → wI w1 (o + 12) t = nI (c' t)) ∧ Kp (fun q => q = o + 12) w w1 ∧ sN c' 144 ≤ sN c 144 ∧ ((l = 1 ∧ sN c' 144 < sN c 144) ∨ (l = 0 ∧ ∀ u, u < i + 1 → tgt S p K c' u 4))) (lpQ (fun s' w'' => j < 144000000001 ∧ ∃ c, BJ S p f K c ∧ (∀ t, t < 144 → wI w'' (o + 12) t = nI (c t)) ∧ Kp (fun q => q = o + 12) w w'' ∧ ((s' = nI 1 ∧ sN c 144 + (j + 1) ≤ 144000000000) ∨ (s' = nI 0 ∧ ∀ u, u < 144 → tgt S p K c u 4))) (lpQ (fun s' w' => 144 < 144 ∧ s' = nI (144 + 1) ∧ 144 + 1 ≤ 144 ∧ (∀ t, t < 144 + 1 → wI w' (o + 12) t = nI 1000000000) ∧ Kp (fun q => q = o + 12) w w') (fun v w' => v = crV K q ∧ Kp (fun q => q = o + 12) w w'))))) := by
          intro hex
          rw [nI_s]
          refine tp_lt (tp_oin ⟨hi8, l, c1, rfl, by omega, hB1, m1, mK, hle, ?_⟩)
          rcases hl with hl | ⟨hl, ht, ht2⟩
          · exact Or.inl hl
          · refine Or.inr ⟨hl, fun u hu => ?_⟩
            by_cases q : u = i
            · subst q
              rcases hex with q | q
              · rw [← q]; exact ht2
              · exact fun z => absurd z q
            · exact ht u (by omega)
        refine tp_ite (fun hlt => ?_) (fun hlt => ?_)
        · have hd4 : d < 4 := (nlt_i (by omega) (by decide)).mp (show nI d < nI 4 from hlt)
          have hci := b1 i hi8
          have hS2 : wI w2 (o + 2) = S := by rw [mK.I (by omega)]; exact hS
          rw [ix_nI (by omega), m1 i hi8]
          refine tp_gd (ib_nI hi8 (by decide)) (tp_ite (fun hc => ?_) (fun hc => ?_))
          · have hc' : c1 i < 1000000000 := (nlt_i (by omega) (by decide)).mp (show nI (c1 i) < nI 1000000000 from hc)
            refine tp_ce (y_beside hF hS2 hi8 hd4) ?_
            rw [nI_s]
            obtain ⟨hfi, n0, m0, e0, hw0⟩ := b2 i hi8 hc'
            have skip : (∀ v, beN S i d = some v → frT S v → c1 v ≤ c1 i + K * mkN S p v + 1) → tp (lt (nI (d + 1) : Int32) (fun v6_49 => some ((.inl (nI l, v6_49) : (Int32 × Int32) ⊕ ((Int32 × Int32) ⊕ (Int32 ⊕ (Int32 ⊕ Int32)))), w2))) (lpQ (fun s' w2 => d < 4 ∧ ∃ l c1, s' = (nI l, nI (d + 1)) ∧ d + 1 ≤ 4 ∧ BJ S p f K c1 ∧ (∀ t, t < 144 → wI w2 (o + 12) t = nI (c1 t)) ∧ Kp (fun q => q = o + 12) w w2 ∧ sN c1 144 ≤ sN c 144 ∧ ((l = 1 ∧ sN c1 144 < sN c 144) ∨ (l = 0 ∧ (∀ u, u < i → tgt S p K c1 u 4) ∧ tgt S p K c1 i (d + 1)))) (lpQ (fun s' w1 => i < 144 ∧ ∃ l c', s' = (nI l, nI (i + 1)) ∧ i + 1 ≤ 144 ∧ BJ S p f K c' ∧ (∀ t, t < 144 → wI w1 (o + 12) t = nI (c' t)) ∧ Kp (fun q => q = o + 12) w w1 ∧ sN c' 144 ≤ sN c 144 ∧ ((l = 1 ∧ sN c' 144 < sN c 144) ∨ (l = 0 ∧ ∀ u, u < i + 1 → tgt S p K c' u 4))) (lpQ (fun s' w'' => j < 144000000001 ∧ ∃ c, BJ S p f K c ∧ (∀ t, t < 144 → wI w'' (o + 12) t = nI (c t)) ∧ Kp (fun q => q = o + 12) w w'' ∧ ((s' = nI 1 ∧ sN c 144 + (j + 1) ≤ 144000000000) ∨ (s' = nI 0 ∧ ∀ u, u < 144 → tgt S p K c u 4))) (lpQ (fun s' w' => 144 < 144 ∧ s' = nI (144 + 1) ∧ 144 + 1 ≤ 144 ∧ (∀ t, t < 144 + 1 → wI w' (o + 12) t = nI 1000000000) ∧ Kp (fun q => q = o + 12) w w') (fun v w' => v = crV K q ∧ Kp (fun q => q = o + 12) w w'))))) := by
              intro hno
              refine tp_lt (tp_on ⟨hd4, l, c1, rfl, by omega, hB1, m1, mK, hle, ?_⟩)
              rcases hl with hl | ⟨hl, ht, ht2⟩
              · exact Or.inl hl
              · refine Or.inr ⟨hl, ht, fun _ v d' hd' e ho => ?_⟩
                by_cases q : d' = d
                · subst q; exact hno v e ho
                · exact ht2 hc' v d' (by omega) e ho
            cases hb : beN S i d with
            | none => exact tp_ifn (by decide) (skip (fun v e => by rw [hb] at e; cases e))
            | some v =>
              obtain ⟨hv, hv8⟩ := beN_on hF hfi.1 hb
              have hm := mkN_le S p v
              obtain ⟨hkm1, hkm2⟩ := hKm _ hm
              rw [show eNone (some v) = nI v from rfl, nI_p, ix_nI (by omega), hS2]
              refine tp_if (n0le (by omega)) (tp_gd (ib_nI (by omega) (by decide)) (tp_ite (fun hw => ?_) (fun hw => ?_)))
              · exact skip (fun a e ho => by rw [hb] at e; cases e; rw [ho.2] at hw; exact absurd hw (by decide))
              · have hfv : frT S v := ⟨hv, by rcases hF.2.2.2.2.2.2.2.1 v hv8 with q | q; exact q; exact absurd q hw⟩
                have hcv := b1 v hv8
                refine tp_gd (ib_nI hi8 (by decide)) (tp_ce (y_signOf hF hS2 hp hv8 eW) ?_)
                rw [nI_m, hkm2, m1 i hi8, nI_p, nI_s, ix_nI (by omega), m1 v hv8]
                refine tp_lt (tp_gd (ib_nI hv8 (by decide)) (tp_ite (fun hc2 => ?_) (fun hc2 => ?_)))
                · have h2 := (nle_i (by omega) (by omega)).mp hc2
                  exact skip (fun a e ho => by rw [hb] at e; cases e; exact h2)
                · have h2 : ¬ c1 v ≤ c1 i + K * mkN S p v + 1 := fun z => hc2 (nle z (by omega))
                  have hs2 := sN_up (c := c1) (v := c1 i + K * mkN S p v + 1) hv8 (by omega)
                  refine tp_gd (ib_nI hv8 (by decide)) (tp_stI (tp_lt (tp_on ⟨hd4, 1, upN c1 v (c1 i + K * mkN S p v + 1), rfl, by omega, ⟨fun t ht => ?_, fun t ht hct => ?_, ?_⟩, fun t ht => ?_, mK.sI rfl _ _, by omega, Or.inl ⟨rfl, by omega⟩⟩)))
                  · by_cases q : t = v
                    · subst q; rw [upN_s]; omega
                    · rw [upN_o _ _ q]; exact b1 t ht
                  · by_cases q : t = v
                    · subst q
                      refine ⟨hfv, n0 + 1, m0 + mkN S p t, ?_, i, m0, hw0, ⟨d, hd4, hb, hfv⟩, rfl⟩
                      rw [upN_s, e0, Nat.mul_add]
                      omega
                    · rw [upN_o _ _ q] at hct ⊢; exact b2 t ht hct
                  · by_cases q : f = v
                    · subst q; rw [upN_s]; omega
                    · rw [upN_o _ _ q]; exact b3
                  · rw [wI_up]
                    unfold up upN
                    by_cases q : t = v
                    · rw [if_pos q, if_pos q]
                    · rw [if_neg q, if_neg q]; exact m1 t ht
          · exact out (Or.inr (fun z => hc (nlt z (by decide) : nI (c1 i) < nI 1000000000)))
        · have hd4 : d = 4 := by
            by_cases q : d < 4
            · exact absurd (nlt q (by decide) : nI d < nI 4) hlt
            · omega
          exact out (Or.inl hd4)
      · have hi8 : i = 144 := by
          by_cases q : i < 144
          · exact absurd (nlt q (by decide) : nI i < nI 144) hlt
          · omega
        subst hi8
        refine tp_oin ⟨by omega, c', hB', m1, mK, ?_⟩
        rcases hl with ⟨hl, h2⟩ | ⟨hl, h2⟩
        · subst hl; exact Or.inl ⟨rfl, by omega⟩
        · subst hl; exact Or.inr ⟨rfl, h2⟩
    · subst es
      have hfin := hB.fin hF (by omega) (by omega) hf8 ht8 htg hq
      rw [ix_nI (by omega), k1 t ht8]
      have hct := hB.1 t ht8
      refine tp_if rfl (tp_gd (ib_nI ht8 (by decide)) (tp_ite (fun hc => ?_) (fun hc => ?_)))
      · have hc' : c t < 1000000000 := (nlt_i (by omega) (by decide)).mp (show nI (c t) < nI 1000000000 from hc)
        refine tp_gd (ib_nI ht8 (by decide)) (tp_oout ⟨?_, kK⟩)
        cases q with
        | none => exact absurd hfin (by omega)
        | some r => rw [hfin.1]; rfl
      · have hc' : ¬ c t < 1000000000 := fun z => hc (nlt z (by decide) : nI (c t) < nI 1000000000)
        refine tp_oout ⟨?_, kK⟩
        cases q with
        | none => rfl
        | some r => exact absurd hfin.2 hc'
end CM
/-! sign, steps -/
section SS
variable {S : Nat → Int32} {w : Wd}
def crOk (S : Nat → Int32) (x y z : Int32) : Prop := isK S 2 x = true ∧ frB S y = true ∧ frB S z = true
theorem x_sign_no (h : XG S w) {x y z : Int32} (hn : ¬ crOk S x y z) : sh_121 0 x y z w = some (-1, w) ∧ sh_127 0 x y z w = some (-1, w) := by
  obtain ⟨hF, hW, hr, a, ha, h7, hR⟩ := h
  constructor
  · unfold sh_121
    rw [der_e ha, cl_e (x_cross_no hF hR hn), if_neg (by decide)]
  · unfold sh_127
    rw [der_e ha, cl_e (x_cross_no hF hR hn), if_neg (by decide)]
theorem y_sign_no (hF : WF S) (hS : wI w 168 = S) {x y z : Int32} (hn : ¬ crOk S x y z) : sh_248 166 x y z w = some (-1, sI w 166 0 0) ∧ sh_252 166 x y z w = some (-1, sI w 166 0 0) := by
  constructor
  · unfold sh_248
    rw [stI_s, cl_e (y_cross_no hF (m0 hS) hn), if_pos (by decide)]
  · unfold sh_252
    rw [stI_s, cl_e (y_cross_no hF (m0 hS) hn), if_pos (by decide)]
/-- what sign and steps answer -/
def sgV (W : Nat) (q : Option (Nat × Nat)) : Int32 := match q with
  | none => -1
  | some r => nI (r.1 * W)
def stV (q : Option (Nat × Nat)) : Int32 := match q with
  | none => -1
  | some r => nI r.2
theorem x_sign (h : XG S w) {p f t W : Nat} (hp : p < ix (S 2)) (hf : frT S f) (ht : frT S t) (eW : S (7 + p) = nI W) : tp (sh_121 0 (nI p) (nI f) (nI t) w) (fun v w' => ∃ q, crSpec S p f t q ∧ v = sgV W q ∧ Kp (fun q => 64 ≤ q ∧ q ≤ 66) w w') := by
  obtain ⟨hF, hW, hr, a, ha, h7, hR⟩ := h
  unfold sh_121
  rw [Nat.zero_add, Nat.zero_add]
  refine tp_der ha (tp_cl (x_cross hF hR hr hp hf ht (by omega) (by omega)) (fun v w2 h2 => ?_))
  obtain ⟨q, hq, ho, hK⟩ := h2
  cases q with
  | none =>
    have ho' : v = false := ho
    subst ho'
    exact tp_ifn (by decide) (tp_some ⟨none, hq, rfl, hK⟩)
  | some r =>
    obtain ⟨o1, o2, o3⟩ := ho
    subst o1
    refine tp_if rfl (tp_der (by rw [hK.R]; exact ha) (tp_ce (x_weightOf hF (hR.kp hK (fun q a b => by omega)) _) (tp_some ⟨some r, hq, ?_, hK⟩)))
    rw [at_in hF hp, eW, o2, nI_m]
    rfl
theorem x_steps (h : XG S w) {p f t : Nat} (hp : p < ix (S 2)) (hf : frT S f) (ht : frT S t) : tp (sh_127 0 (nI p) (nI f) (nI t) w) (fun v w' => ∃ q, crSpec S p f t q ∧ v = stV q ∧ Kp (fun q => 64 ≤ q ∧ q ≤ 66) w w') := by
  obtain ⟨hF, hW, hr, a, ha, h7, hR⟩ := h
  unfold sh_127
  rw [Nat.zero_add, Nat.zero_add]
  refine tp_der ha (tp_cl (x_cross hF hR hr hp hf ht (by omega) (by omega)) (fun v w2 h2 => ?_))
  obtain ⟨q, hq, ho, hK⟩ := h2
  cases q with
  | none =>
    have ho' : v = false := ho
    subst ho'
    exact tp_ifn (by decide) (tp_some ⟨none, hq, rfl, hK⟩)
  | some r =>
    obtain ⟨o1, o2, o3⟩ := ho
    subst o1
    refine tp_if rfl (tp_some ⟨some r, hq, ?_, hK⟩)
    rw [o3]
    rfl
theorem cr_num {W m n : Nat} (hW : 1 ≤ W) (hn : n ≤ 144) : (1000 * W * m + n) / 1000 = m * W ∧ (1000 * W * m + n) % 1000 = n := by
  have e : 1000 * W * m + n = 1000 * (m * W) + n := by rw [Nat.mul_assoc, Nat.mul_comm W m]
  rw [e]
  omega
theorem y_sign (hF : WF S) (hS : wI w 168 = S) {p f t W : Nat} (hp : p < ix (S 2)) (hf : frT S f) (ht : frT S t) (eW : S (7 + p) = nI W) (hW1 : 1 ≤ W) (hW9 : W ≤ 9) {q : Option (Nat × Nat)} (hq : crSpec S p f t q) : tp (sh_248 166 (nI p) (nI f) (nI t) w) (fun v w' => v = sgV W q ∧ Kp (fun q => q = 166 ∨ q = 178) w w' ∧ Fm (fun j => j = 0) w w') := by
  unfold sh_248
  refine tp_stI (tp_cl (y_cross (o := 166) hF (m0 hS) hp hf ht eW hW1 hW9 hq) (fun v w2 h2 => ?_))
  obtain ⟨hv, hK⟩ := h2
  subst hv
  have hK2 : Kp (fun q => q = 166 ∨ q = 178) w w2 := (kp0 (P := fun q => q = 166 ∨ q = 178) (Or.inl rfl)).trans (hK.mono (fun q hq => Or.inr hq))
  have hF2 : Fm (fun j => j = 0) w w2 := fun j hj => by rw [hK.I (by omega), wI_other hj]
  cases q with
  | none => exact tp_if (show (-1 : Int32) < 0 by decide) (tp_some ⟨rfl, hK2, hF2⟩)
  | some r =>
    obtain ⟨q1, q2, -⟩ := hq
    have hb := Nat.mul_le_mul (show 1000 * W ≤ 9000 by omega) q2
    refine tp_ifn (show ¬ nI (1000 * W * r.1 + r.2) < nI 0 from nnlt (Nat.zero_le _) (by omega)) (tp_some ⟨?_, hK2, hF2⟩)
    show nI (1000 * W * r.1 + r.2) / nI 1000 = nI (r.1 * W)
    rw [nI_div (by omega) (by decide) (by decide), (cr_num hW1 q1).1]
theorem y_steps (hF : WF S) (hS : wI w 168 = S) {p f t W : Nat} (hp : p < ix (S 2)) (hf : frT S f) (ht : frT S t) (eW : S (7 + p) = nI W) (hW1 : 1 ≤ W) (hW9 : W ≤ 9) {q : Option (Nat × Nat)} (hq : crSpec S p f t q) : tp (sh_252 166 (nI p) (nI f) (nI t) w) (fun v w' => v = stV q ∧ Kp (fun q => q = 166 ∨ q = 178) w w' ∧ Fm (fun j => j = 0) w w') := by
  unfold sh_252
  refine tp_stI (tp_cl (y_cross (o := 166) hF (m0 hS) hp hf ht eW hW1 hW9 hq) (fun v w2 h2 => ?_))
  obtain ⟨hv, hK⟩ := h2
  subst hv
  have hK2 : Kp (fun q => q = 166 ∨ q = 178) w w2 := (kp0 (P := fun q => q = 166 ∨ q = 178) (Or.inl rfl)).trans (hK.mono (fun q hq => Or.inr hq))
  have hF2 : Fm (fun j => j = 0) w w2 := fun j hj => by rw [hK.I (by omega), wI_other hj]
  cases q with
  | none => exact tp_if (show (-1 : Int32) < 0 by decide) (tp_some ⟨rfl, hK2, hF2⟩)
  | some r =>
    obtain ⟨q1, q2, -⟩ := hq
    have hb := Nat.mul_le_mul (show 1000 * W ≤ 9000 by omega) q2
    refine tp_ifn (show ¬ nI (1000 * W * r.1 + r.2) < nI 0 from nnlt (Nat.zero_le _) (by omega)) (tp_some ⟨?_, hK2, hF2⟩)
    show zrem (nI (1000 * W * r.1 + r.2)) (nI 1000) = nI r.2
    rw [nI_rem (by omega) (by decide) (by decide), (cr_num hW1 q1).2]
end SS
