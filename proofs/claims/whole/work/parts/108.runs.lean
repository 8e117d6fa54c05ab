/-! where to lay rugs: the reference's ways on, all of them; seen -/
section RM
variable {S : Nat → Int32} {op : Nat → Prop} {s e : Nat} {f : Nat → Nat → Prop} {c : Nat → Prop} {w : Wd} {n : Int}
def rnP (q : Nat) : Prop := q = 166 ∨ 180 ≤ q ∧ q ≤ 183
theorem y_runsMore (hF : WF S) (hS : wI w 168 = S) (hL : FLW S op s e f c n) (hop : ∀ t, op t → frT S t) (hs : op s) (hoe : op e) (hse : ¬ s = e) (hf : FAr S w 180 f) (hc : CMr s e w c) (hld : LDr S w op) : tp (sh_258 166 (nI s) (nI e) w) (fun v w' => ((v = true ∧ ∃ f c, FLW S op s e f c (n + 1) ∧ FAr S w' 180 f ∧ CMr s e w' c) ∨ (v = false ∧ ∃ R, clsd S op s e f c R ∧ R (2 * s + 1) ∧ ¬ R (2 * e))) ∧ Kp rnP w w' ∧ Fm (fun j => j = 43) w w') := by
  have hs8 := (hop s hs).1.lt hF
  have he8 := (hop e hoe).1.lt hF
  have hopR : ∀ t, op t → onR S t := fun t z => (hop t z).1
  have mkr : ∀ q, mkP q → rnP q := fun q hq => by unfold mkP at hq; unfold rnP; omega
  unfold sh_258
  refine tp_it (fun j s' w' => s' = nI j ∧ j ≤ 288 ∧ (∀ x, x < j → wI w' 182 x = -1) ∧ Kp mkP w w' ∧ Fm (fun j => j = 43) w w') 288 (by omega) ⟨rfl, Nat.zero_le _, fun x hx => by omega, Kp.refl, fun _ _ => rfl⟩ (fun j s' w' hI => ?_)
  obtain ⟨es, hj, g1, gK, gF⟩ := hI
  subst es
  refine tp_ite (fun hlt => ?_) (fun hlt => ?_)
  · have hj8 : j < 288 := (nlt_i (by omega) (by decide)).mp (show nI j < nI 288 from hlt)
    rw [ix_nI (by omega), nI_s]
    refine tp_gd (ib_nI hj8 (by decide)) (tp_stI (tp_lt (tp_on ⟨hj8, rfl, by omega, fun x hx => ?_, gK.sI (Or.inr (Or.inl rfl)) _ _, fun k hk => by rw [wI_row (by decide)]; exact gF k hk⟩)))
    rw [show 166 + 16 = 182 from rfl, wI_up]
    unfold up
    by_cases q : x = j
    · rw [if_pos q]
    · rw [if_neg q]; exact g1 x (by omega)
  · have hj8 : j = 288 := by
      by_cases q : j < 288
      · exact absurd (nlt q (by decide) : nI j < nI 288) hlt
      · omega
    subst hj8
    refine tp_stI ?_
    have start : tp (sh_259 166 ((2 * nI s) + 1) ((2 * nI s) + 1) (sI w' 166 43 0)) (fun _ w2 => BQ (rsd S op s e f c) (ndM op s e) (2 * s + 1) (onlyC (2 * s + 1)) (fun _ => 2 * s + 1) 1 ∧ AHr w2 182 183 166 43 (onlyC (2 * s + 1)) (fun _ => 2 * s + 1) 1 ∧ Kp mkP w w2 ∧ Fm (fun j => j = 43) w w2) := by
      rw [l2, l1, nI_m, nI_p]
      unfold sh_259
      rw [ix_nI (by omega), wI_row (show ¬ 166 + 16 = 166 by decide), show wI w' (166 + 16) (2 * s + 1) = -1 from g1 _ (by omega)]
      refine tp_gd (ib_nI (by omega) (by decide)) (tp_if rfl (tp_gd (ib_nI (by omega) (by decide)) (tp_stI ?_)))
      rw [wI_row (show ¬ 166 = 166 + 16 by decide), wI_same]
      refine tp_gd (by decide) (tp_stI ?_)
      rw [wI_row (show ¬ 166 = 166 + 17 by decide), wI_row (show ¬ 166 = 166 + 16 by decide), wI_same]
      refine tp_stI (tp_some ⟨⟨onlyC_n (by omega), fun j hj => ⟨show 2 * s + 1 < 288 by omega, by rw [onlyC_s]; rfl, show ndM op s e (2 * s + 1) from ⟨by rw [show (2 * s + 1) / 2 = s by omega]; exact hs, by omega, by omega⟩⟩, fun a b ha hb _ => by omega, fun x hx hv => ?_, ⟨by omega, rfl, onlyC_s _⟩, fun j h0 hj => by omega⟩, ⟨fun x hx => ?_, fun j hj => ?_, wI_same⟩, ?_, fun k hk => ?_⟩)
      · refine ⟨0, by omega, ?_⟩
        by_cases q : x = 2 * s + 1
        · exact q.symm
        · rw [onlyC_o q] at hv; cases hv
      · rw [wI_row (by decide), wI_row (by decide), show 166 + 16 = 182 from rfl, wI_up, wI_row (by decide)]
        unfold up
        by_cases q : x = 2 * s + 1
        · rw [if_pos q, q, onlyC_s]; rfl
        · rw [if_neg q, onlyC_o q]; exact g1 x hx
      · rw [wI_row (by decide), show 166 + 17 = 183 from rfl, wI_up]
        have : j = 0 := by omega
        subst this
        exact up_s
      · exact (((gK.sI (Or.inl rfl) _ _).sI (Or.inr (Or.inl rfl)) _ _).sI (Or.inr (Or.inr rfl)) _ _).sI (Or.inl rfl) _ _
      · rw [wI_other hk, wI_row (by decide), wI_row (by decide), wI_other hk]; exact gF k hk
    refine tp_cl start (fun _ w2 h2 => ?_)
    obtain ⟨hB0, hA0, hK0, hF0⟩ := h2
    refine tp_it (fun i s' w3 => s' = nI i ∧ i ≤ 288 ∧ ∃ came que m, BQ (rsd S op s e f c) (ndM op s e) (2 * s + 1) came que m ∧ AHr w3 182 183 166 43 came que m ∧ i ≤ m ∧ (∀ j, j < i → ¬ que j = 2 * e ∧ allN (rsd S op s e f c) (que j) came) ∧ Kp mkP w w3 ∧ Fm (fun j => j = 43) w w3) 288 (by omega) ⟨rfl, Nat.zero_le _, _, _, _, hB0, hA0, by omega, fun j hj => by omega, hK0, hF0⟩ (fun i s' w3 hI => ?_)
    obtain ⟨es, hi8, came, que, m, hB, hA, him, hex, hK, hFo⟩ := hI
    subst es
    have kI : ∀ q, ¬ mkP q → wI w3 q = wI w q := fun q hq => hK.I hq
    have hS3 : wI w3 168 = S := by rw [kI 168 (by unfold mkP; omega)]; exact hS
    have hf' : FAr S w3 180 f := by unfold FAr; rw [kI 180 (by unfold mkP; omega)]; exact hf
    have hc' : CMr s e w3 c := by unfold CMr; rw [kI 181 (by unfold mkP; omega)]; exact hc
    have hm8 : m ≤ 288 := by
      have := cntN_le (fun x => (came x).isSome) 288
      have := hB.1
      omega
    rw [hA.2.2]
    refine tp_ite (fun hlt => ?_) (fun hlt => ?_)
    · have hi : i < m := (nlt_i (by omega) (by omega)).mp hlt
      have hq8 := (hB.2.1 i hi).1
      have hnd := (hB.2.1 i hi).2.2
      rw [ix_nI (by omega), show wI w3 (166 + 17) i = nI (que i) from hA.2.1 i hi, nI_s, l2, nI_m, nI_div (by omega) (by decide) (by decide), nI_rem (by omega) (by decide) (by decide)]
      refine tp_gd (ib_nI (by omega) (by decide)) (tp_lt (tp_gd (ib_nI (by omega) (by decide)) (tp_ite (fun z => ?_) (fun z => ?_))))
      · have hz : que i = 2 * e := (nI_eq (by omega) (by omega)).mp z
        refine tp_cl (y_turned hF hL hopR hs hse he8 hf' hc' hB hA hi hz) (fun v w4 h4 => ?_)
        obtain ⟨hv, f4, c4, k1, k2, k3, k4⟩ := h4
        exact tp_oout ⟨Or.inl ⟨hv, f4, c4, k1, k2, k3⟩, (hK.mono mkr).trans (k4.mono (fun q hq => by unfold rnP; omega)), fun j hj => by rw [k4.I (by omega)]; exact hFo j hj⟩
      · have hng : ¬ que i = 2 * e := fun y => z (by rw [y])
        have next : ∀ {A1 : Int32 → Wd → Prop} (w4 : Wd) (c4 : Nat → Option Nat) (q4 : Nat → Nat) (m4 : Nat), VSm op s e (rsd S op s e f c) (2 * s + 1) w3 came que m w4 c4 q4 m4 → allN (rsd S op s e f c) (que i) c4 → tp (some ((.inr (.inl (nI (i + 1))) : Int32 ⊕ (Int32 ⊕ (Int32 ⊕ Bool))), w4)) (lpQ A1 (lpQ (fun s' w3 => i < 288 ∧ s' = nI (i + 1) ∧ i + 1 ≤ 288 ∧ ∃ came que m, BQ (rsd S op s e f c) (ndM op s e) (2 * s + 1) came que m ∧ AHr w3 182 183 166 43 came que m ∧ i + 1 ≤ m ∧ (∀ j, j < i + 1 → ¬ que j = 2 * e ∧ allN (rsd S op s e f c) (que j) came) ∧ Kp mkP w w3 ∧ Fm (fun j => j = 43) w w3) (lpQ (fun s' w' => 288 < 288 ∧ s' = nI (288 + 1) ∧ 288 + 1 ≤ 288 ∧ (∀ x, x < 288 + 1 → wI w' 182 x = -1) ∧ Kp mkP w w' ∧ Fm (fun j => j = 43) w w') (fun v w' => ((v = true ∧ ∃ f c, FLW S op s e f c (n + 1) ∧ FAr S w' 180 f ∧ CMr s e w' c) ∨ (v = false ∧ ∃ R, clsd S op s e f c R ∧ R (2 * s + 1) ∧ ¬ R (2 * e))) ∧ Kp rnP w w' ∧ Fm (fun j => j = 43) w w')))) := by
          intro A1 w4 c4 q4 m4 hV hall
          obtain ⟨v1, v2, v3, v4, v5⟩ := hV
          refine tp_oin ⟨by omega, rfl, by omega, c4, q4, m4, v1, v2, by have := v3.1; omega, fun j hj => ?_, hK.trans v4, fun k hk => by rw [v5 k hk]; exact hFo k hk⟩
          rw [v3.2.1 j (by omega)]
          by_cases q : j = i
          · subst q; exact ⟨hng, hall⟩
          · obtain ⟨k1, k2⟩ := hex j (by omega)
            exact ⟨k1, fun y hy hr => v3.2.2 _ (k2 y hy hr)⟩
        refine tp_gd (ib_nI (by omega) (by decide)) (tp_ite (fun z2 => ?_) (fun z2 => ?_))
        · have hod : que i % 2 = 1 := (nI_eq (by omega) (by decide)).mp (show nI (que i % 2) = nI 1 from z2)
          obtain ⟨u, hu⟩ : ∃ u, que i = 2 * u + 1 := ⟨que i / 2, by omega⟩
          have hou : op u := by have := hnd.1; rw [hu, show (2 * u + 1) / 2 = u by omega] at this; exact this
          have hue : ¬ u = e := fun y => hnd.2.1 (by rw [hu, y])
          have huR := hopR u hou
          have hu8 := huR.lt hF
          rw [show que i / 2 = u by omega]
          refine tp_it (fun d s' w4 => s' = nI d ∧ d ≤ 4 ∧ ∃ c2 q2 m2, VSm op s e (rsd S op s e f c) (2 * s + 1) w3 came que m w4 c2 q2 m2 ∧ ∀ d' v, d' < d → beN S u d' = some v → op v → ¬ v = s → ¬ f u v → (c2 (2 * v)).isSome = true) 4 (by omega) ⟨rfl, Nat.zero_le _, came, que, m, VSm.refl hB hA, fun d' v hd => by omega⟩ (fun d s' w4 hI => ?_)
          obtain ⟨es, hd, c2, q2, m2, hV, hdn⟩ := hI
          subst es
          obtain ⟨v1, v2, v3, v4, v5⟩ := hV
          have kI4 : ∀ q, ¬ mkP q → wI w4 q = wI w3 q := fun q hq => v4.I hq
          have hq2 : q2 i = 2 * u + 1 := by rw [v3.2.1 i hi]; exact hu
          have hi2 : i < m2 := by have := v3.1; omega
          have rq : wI w4 (166 + 17) i = nI (2 * u + 1) := by rw [← hq2]; exact v2.2.1 i hi2
          refine tp_ite (fun hlt => ?_) (fun hlt => ?_)
          · have hd4 : d < 4 := (nlt_i (by omega) (by decide)).mp (show nI d < nI 4 from hlt)
            have hS4 : wI w4 168 = S := by rw [kI4 168 (by unfold mkP; omega)]; exact hS3
            have hld4 : LDr S w4 op := by unfold LDr; rw [kI4 185 (by unfold mkP; omega), kI 185 (by unfold mkP; omega)]; exact hld
            have hf4 : FAr S w4 180 f := by unfold FAr; rw [kI4 180 (by unfold mkP; omega)]; exact hf'
            obtain ⟨bo, eo, ho⟩ := y_isOpen hS4 hop hld4 hF (b := beN S u d) (fun t y => (beN_on hF huR y).1)
            refine tp_ce (y_beside (o := 166) hF hS4 hu8 hd4) (tp_ce eo ?_)
            rw [nI_s]
            have skip : (∀ v, beN S u d = some v → op v → ¬ v = s → ¬ f u v → False) → tp (lt (nI (d + 1) : Int32) (fun v5_35 => some ((.inl v5_35 : Int32 ⊕ (Int32 ⊕ (Int32 ⊕ Bool))), w4))) (lpQ (fun s' w4 => d < 4 ∧ s' = nI (d + 1) ∧ d + 1 ≤ 4 ∧ ∃ c2 q2 m2, VSm op s e (rsd S op s e f c) (2 * s + 1) w3 came que m w4 c2 q2 m2 ∧ ∀ d' v, d' < d + 1 → beN S u d' = some v → op v → ¬ v = s → ¬ f u v → (c2 (2 * v)).isSome = true) (lpQ (fun s' w3 => i < 288 ∧ s' = nI (i + 1) ∧ i + 1 ≤ 288 ∧ ∃ came que m, BQ (rsd S op s e f c) (ndM op s e) (2 * s + 1) came que m ∧ AHr w3 182 183 166 43 came que m ∧ i + 1 ≤ m ∧ (∀ j, j < i + 1 → ¬ que j = 2 * e ∧ allN (rsd S op s e f c) (que j) came) ∧ Kp mkP w w3 ∧ Fm (fun j => j = 43) w w3) (lpQ (fun s' w' => 288 < 288 ∧ s' = nI (288 + 1) ∧ 288 + 1 ≤ 288 ∧ (∀ x, x < 288 + 1 → wI w' 182 x = -1) ∧ Kp mkP w w' ∧ Fm (fun j => j = 43) w w') (fun v w' => ((v = true ∧ ∃ f c, FLW S op s e f c (n + 1) ∧ FAr S w' 180 f ∧ CMr s e w' c) ∨ (v = false ∧ ∃ R, clsd S op s e f c R ∧ R (2 * s + 1) ∧ ¬ R (2 * e))) ∧ Kp rnP w w' ∧ Fm (fun j => j = 43) w w')))) := by
              intro hno
              refine tp_lt (tp_on ⟨hd4, rfl, by omega, c2, q2, m2, ⟨v1, v2, v3, v4, v5⟩, fun d' v hd' e1 e2 e3 e4 => ?_⟩)
              by_cases q : d' = d
              · subst q; exact absurd (hno v e1 e2 e3 e4) id
              · exact hdn d' v (by omega) e1 e2 e3 e4
            refine tp_ite (fun z3 => ?_) (fun z3 => ?_)
            · obtain ⟨v, hb, hov⟩ := ho.mp z3
              obtain ⟨hv, hv8⟩ := beN_on hF huR hb
              rw [hb, show eNone (some v) = nI v from rfl]
              refine tp_ite (fun z4 => ?_) (fun z4 => ?_)
              · have hvs : v = s := (nI_eq (by omega) (by omega)).mp z4
                exact skip (fun v' y _ h3 _ => by rw [hb] at y; cases y; exact h3 hvs)
              · have hvs : ¬ v = s := fun y => z4 (by rw [y])
                rw [l4, nI_m, nI_p, ix_nI (by omega)]
                obtain ⟨f1, f2⟩ := hf4 u v d huR hv8 hd4 hb
                refine tp_gd (ib_nI (by omega) (by decide)) (tp_ite (fun z5 => ?_) (fun z5 => ?_))
                · have hnf : ¬ f u v := fun y => by rw [show wI w4 (166 + 14) (4 * u + d) = 1 from f1 y] at z5; exact absurd z5 (by decide)
                  rw [rq, nI_m]
                  have hvz : tp (sh_259 166 (nI (2 * v)) (nI (2 * u + 1)) w4) (fun _ w' => ∃ came' que' m', VSm op s e (rsd S op s e f c) (2 * s + 1) w4 c2 q2 m2 w' came' que' m' ∧ (came' (2 * v)).isSome = true) := by
                    rw [← hq2]
                    exact y_comes (y := 2 * v) v1 v2 hi2 (by omega) (by rw [hq2]; exact Or.inl ⟨u, v, rfl, rfl, hu8, hv8, ⟨d, hd4, hb⟩, hou, hov, hvs, hue, hnf⟩) ⟨by rw [show 2 * v / 2 = v by omega]; exact hov, by omega, by omega⟩
                  refine tp_gd (ib_nI (by omega) (by decide)) (tp_cl hvz (fun _ w5 h5 => ?_))
                  obtain ⟨c3, q3, m3, hV3, hvis⟩ := h5
                  refine tp_lt (tp_on ⟨hd4, rfl, by omega, c3, q3, m3, VSm.trans ⟨v1, v2, v3, v4, v5⟩ hV3, fun d' v' hd' e1 e2 e3 e4 => ?_⟩)
                  by_cases q : d' = d
                  · subst q
                    rw [hb] at e1
                    cases e1
                    exact hvis
                  · exact hV3.2.2.1.2.2 _ (hdn d' v' (by omega) e1 e2 e3 e4)
                · exact skip (fun v' y _ _ h4 => by rw [hb] at y; cases y; exact z5 (f2 h4))
            · exact skip (fun v y h2 _ _ => z3 (ho.mpr ⟨v, y, h2⟩))
          · have hd4 : d = 4 := by
              by_cases q : d < 4
              · exact absurd (nlt q (by decide) : nI d < nI 4) hlt
              · omega
            subst hd4
            have fin : ∀ (c3 : Nat → Option Nat), BG c2 c3 q2 q2 m2 m2 ∨ True → (∀ x, (c2 x).isSome = true → (c3 x).isSome = true) → (c u → ¬ u = s → (c3 (2 * u)).isSome = true) → allN (rsd S op s e f c) (que i) c3 := by
              intro c3 _ hgrow hcu y hy hr
              rw [hu] at hr
              rcases hr with ⟨u', v, e1, e2, g1, g2, ⟨d, hd4, hb⟩, g4, g5, g6, g7, g8⟩ | ⟨u', v, e1, -⟩ | ⟨t, e1, -⟩ | ⟨t, e1, e2, g1, g2, g3, g4⟩
              · have : u' = u := by omega
                subst this
                rw [e2]
                exact hgrow _ (hdn d v hd4 hb g5 g6 g8)
              · omega
              · omega
              · have : t = u := by omega
                subst this
                rw [e2]
                exact hcu g4 g2
            have hc4 : CMr s e w4 c := by unfold CMr; rw [kI4 181 (by unfold mkP; omega)]; exact hc'
            refine tp_ite (fun z3 => ?_) (fun z3 => ?_)
            · have hus : u = s := (nI_eq (by omega) (by omega)).mp z3
              exact tp_lt (next w4 c2 q2 m2 ⟨v1, v2, v3, v4, v5⟩ (fin c2 (Or.inr trivial) (fun _ h => h) (fun _ h => absurd hus h)))
            · have hus : ¬ u = s := fun y => z3 (by rw [y])
              rw [ix_nI (by omega)]
              obtain ⟨k1, k2⟩ := hc4 u hu8 hus hue
              refine tp_gd (ib_nI hu8 (by decide)) (tp_ite (fun z4 => ?_) (fun z4 => ?_))
              · have hcu : c u := by
                  rcases Classical.em (c u) with y | y
                  · exact y
                  · rw [show wI w4 (166 + 15) u = 0 from k2 y] at z4; exact absurd z4 (by decide)
                rw [rq, nI_m]
                have hvz : tp (sh_259 166 (nI (2 * u)) (nI (2 * u + 1)) w4) (fun _ w' => ∃ came' que' m', VSm op s e (rsd S op s e f c) (2 * s + 1) w4 c2 q2 m2 w' came' que' m' ∧ (came' (2 * u)).isSome = true) := by
                  rw [← hq2]
                  exact y_comes (y := 2 * u) v1 v2 hi2 (by omega) (by rw [hq2]; exact Or.inr (Or.inr (Or.inr ⟨u, rfl, rfl, hu8, hus, hue, hcu⟩))) ⟨by rw [show 2 * u / 2 = u by omega]; exact hou, by omega, by omega⟩
                refine tp_gd (ib_nI (by omega) (by decide)) (tp_cl hvz (fun _ w5 h5 => ?_))
                obtain ⟨c3, q3, m3, hV3, hvis⟩ := h5
                exact tp_lt (next w5 c3 q3 m3 (VSm.trans ⟨v1, v2, v3, v4, v5⟩ hV3) (fin c3 (Or.inr trivial) hV3.2.2.1.2.2 (fun _ _ => hvis)))
              · exact tp_lt (next w4 c2 q2 m2 ⟨v1, v2, v3, v4, v5⟩ (fin c2 (Or.inr trivial) (fun _ h => h) (fun h _ => absurd (show wI w4 (166 + 15) u = 1 from k1 h) z4)))
        · have hev : que i % 2 = 0 := by
            have : ¬ que i % 2 = 1 := fun y => z2 (by rw [y]; rfl)
            omega
          obtain ⟨t, ht⟩ : ∃ t, que i = 2 * t := ⟨que i / 2, by omega⟩
          have hot : op t := by have := hnd.1; rw [ht, show 2 * t / 2 = t by omega] at this; exact this
          have hts : ¬ t = s := fun y => hnd.2.2 (by rw [ht, y])
          have hte : ¬ t = e := fun y => hng (by rw [ht, y])
          have htR := hopR t hot
          have ht8 := htR.lt hF
          rw [show que i / 2 = t by omega, ix_nI (by omega)]
          obtain ⟨k1, k2⟩ := hc' t ht8 hts hte
          refine tp_gd (ib_nI ht8 (by decide)) (tp_jn ?_)
          have rest : ∀ (w1 : Wd) (c1 : Nat → Option Nat) (q1 : Nat → Nat) (m1 : Nat), VSm op s e (rsd S op s e f c) (2 * s + 1) w3 came que m w1 c1 q1 m1 → (¬ c t → (c1 (2 * t + 1)).isSome = true) → tp (itM (fun (v5_46 : Int32) (w48 : Wd) => if v5_46 < 4 then (cl (sh_251 166 (nI t) v5_46 w48) (fun r51 w50 => if 0 ≤ r51 then (gd (ib ((4 * r51) + (zrem (v5_46 + nI 2) 4)) 576) (if wI w50 (166 + 14) (ix ((4 * r51) + (zrem (v5_46 + nI 2) 4))) = 1 then (gd (ib (nI i) 288) (cl (sh_259 166 ((nI 2 * r51) + 1) (wI w50 (166 + 17) i) w50) (fun _ w54 => lt (v5_46 + 1 : Int32) (fun v5_56 => some ((.inl v5_56 : Int32 ⊕ (Int32 ⊕ (Int32 ⊕ Bool))), w54))))) else (lt (v5_46 + 1 : Int32) (fun v5_57 => some (.inl v5_57, w50))))) else (lt (v5_46 + 1 : Int32) (fun v5_58 => some (.inl v5_58, w50))))) else (lt (nI (i + 1) : Int32) (fun v3_59 => some (.inr (.inl v3_59), w48)))) FU 0 w1) (lpQ (fun s' w3 => i < 288 ∧ s' = nI (i + 1) ∧ i + 1 ≤ 288 ∧ ∃ came que m, BQ (rsd S op s e f c) (ndM op s e) (2 * s + 1) came que m ∧ AHr w3 182 183 166 43 came que m ∧ i + 1 ≤ m ∧ (∀ j, j < i + 1 → ¬ que j = 2 * e ∧ allN (rsd S op s e f c) (que j) came) ∧ Kp mkP w w3 ∧ Fm (fun j => j = 43) w w3) (lpQ (fun s' w' => 288 < 288 ∧ s' = nI (288 + 1) ∧ 288 + 1 ≤ 288 ∧ (∀ x, x < 288 + 1 → wI w' 182 x = -1) ∧ Kp mkP w w' ∧ Fm (fun j => j = 43) w w') (fun v w' => ((v = true ∧ ∃ f c, FLW S op s e f c (n + 1) ∧ FAr S w' 180 f ∧ CMr s e w' c) ∨ (v = false ∧ ∃ R, clsd S op s e f c R ∧ R (2 * s + 1) ∧ ¬ R (2 * e))) ∧ Kp rnP w w' ∧ Fm (fun j => j = 43) w w'))) := by
            intro w1 c1 q1 m1 hV1 hin
            refine tp_it (fun d s' w4 => s' = nI d ∧ d ≤ 4 ∧ ∃ c2 q2 m2, VSm op s e (rsd S op s e f c) (2 * s + 1) w3 came que m w4 c2 q2 m2 ∧ (¬ c t → (c2 (2 * t + 1)).isSome = true) ∧ ∀ d' u, d' < d → beN S t d' = some u → f u t → (c2 (2 * u + 1)).isSome = true) 4 (by omega) ⟨rfl, Nat.zero_le _, c1, q1, m1, hV1, hin, fun d' v hd => by omega⟩ (fun d s' w4 hI => ?_)
            obtain ⟨es, hd, c2, q2, m2, hV, hin, hdn⟩ := hI
            subst es
            obtain ⟨v1, v2, v3, v4, v5⟩ := hV
            have kI4 : ∀ q, ¬ mkP q → wI w4 q = wI w3 q := fun q hq => v4.I hq
            have hq2 : q2 i = 2 * t := by rw [v3.2.1 i hi]; exact ht
            have hi2 : i < m2 := by have := v3.1; omega
            have rq : wI w4 (166 + 17) i = nI (2 * t) := by rw [← hq2]; exact v2.2.1 i hi2
            refine tp_ite (fun hlt => ?_) (fun hlt => ?_)
            · have hd4 : d < 4 := (nlt_i (by omega) (by decide)).mp (show nI d < nI 4 from hlt)
              have hS4 : wI w4 168 = S := by rw [kI4 168 (by unfold mkP; omega)]; exact hS3
              have hf4 : FAr S w4 180 f := by unfold FAr; rw [kI4 180 (by unfold mkP; omega)]; exact hf'
              refine tp_ce (y_beside (o := 166) hF hS4 ht8 hd4) ?_
              rw [nI_s]
              have skip : (∀ u, beN S t d = some u → f u t → False) → tp (lt (nI (d + 1) : Int32) (fun v5_35 => some ((.inl v5_35 : Int32 ⊕ (Int32 ⊕ (Int32 ⊕ Bool))), w4))) (lpQ (fun s' w4 => d < 4 ∧ s' = nI (d + 1) ∧ d + 1 ≤ 4 ∧ ∃ c2 q2 m2, VSm op s e (rsd S op s e f c) (2 * s + 1) w3 came que m w4 c2 q2 m2 ∧ (¬ c t → (c2 (2 * t + 1)).isSome = true) ∧ ∀ d' u, d' < d + 1 → beN S t d' = some u → f u t → (c2 (2 * u + 1)).isSome = true) (lpQ (fun s' w3 => i < 288 ∧ s' = nI (i + 1) ∧ i + 1 ≤ 288 ∧ ∃ came que m, BQ (rsd S op s e f c) (ndM op s e) (2 * s + 1) came que m ∧ AHr w3 182 183 166 43 came que m ∧ i + 1 ≤ m ∧ (∀ j, j < i + 1 → ¬ que j = 2 * e ∧ allN (rsd S op s e f c) (que j) came) ∧ Kp mkP w w3 ∧ Fm (fun j => j = 43) w w3) (lpQ (fun s' w' => 288 < 288 ∧ s' = nI (288 + 1) ∧ 288 + 1 ≤ 288 ∧ (∀ x, x < 288 + 1 → wI w' 182 x = -1) ∧ Kp mkP w w' ∧ Fm (fun j => j = 43) w w') (fun v w' => ((v = true ∧ ∃ f c, FLW S op s e f c (n + 1) ∧ FAr S w' 180 f ∧ CMr s e w' c) ∨ (v = false ∧ ∃ R, clsd S op s e f c R ∧ R (2 * s + 1) ∧ ¬ R (2 * e))) ∧ Kp rnP w w' ∧ Fm (fun j => j = 43) w w')))) := by
                intro hno
                refine tp_lt (tp_on ⟨hd4, rfl, by omega, c2, q2, m2, ⟨v1, v2, v3, v4, v5⟩, hin, fun d' v hd' e1 e2 => ?_⟩)
                by_cases q : d' = d
                · subst q; exact absurd (hno v e1 e2) id
                · exact hdn d' v (by omega) e1 e2
              cases hb : beN S t d with
              | none => exact tp_ifn (by decide) (skip (fun v y => by rw [hb] at y; cases y))
              | some u =>
                obtain ⟨hu, hu8⟩ := beN_on hF htR hb
                have hbk := beN_back hF htR hd4 hb
                have hd2 : (d + 2) % 4 < 4 := Nat.mod_lt _ (by decide)
                rw [show eNone (some u) = nI u from rfl, l4, nI_m, nI_p, nI_rem (by omega) (by decide) (by decide), nI_p, ix_nI (by omega)]
                obtain ⟨f1, f2⟩ := hf4 u t _ hu ht8 hd2 hbk
                refine tp_if (n0le (by omega)) (tp_gd (ib_nI (by omega) (by decide)) (tp_ite (fun z1 => ?_) (fun z1 => ?_)))
                · have hfu : f u t := by
                    rcases Classical.em (f u t) with q | q
                    · exact q
                    · rw [show wI w4 (166 + 14) (4 * u + (d + 2) % 4) = 0 from f2 q] at z1; exact absurd z1 (by decide)
                  rw [rq, nI_m, nI_s]
                  have hvz : tp (sh_259 166 (nI (2 * u + 1)) (nI (2 * t)) w4) (fun _ w'' => ∃ came' que' m', VSm op s e (rsd S op s e f c) (2 * s + 1) w4 c2 q2 m2 w'' came' que' m' ∧ (came' (2 * u + 1)).isSome = true) := by
                    rw [← hq2]
                    exact y_comes (y := 2 * u + 1) v1 v2 hi2 (by omega) (by rw [hq2]; exact Or.inr (Or.inl ⟨u, t, rfl, rfl, hu8, ht8, hfu⟩)) ⟨by rw [show (2 * u + 1) / 2 = u by omega]; exact (hL.1 u t hfu).2.1, fun y => (hL.1 u t hfu).2.2.2.2 (by omega), by omega⟩
                  refine tp_gd (ib_nI (by omega) (by decide)) (tp_cl hvz (fun _ w5 h5 => ?_))
                  obtain ⟨c3, q3, m3, hV3, hvis⟩ := h5
                  refine tp_lt (tp_on ⟨hd4, rfl, by omega, c3, q3, m3, VSm.trans ⟨v1, v2, v3, v4, v5⟩ hV3, fun h => hV3.2.2.1.2.2 _ (hin h), fun d' u' hd' e1 e2 => ?_⟩)
                  by_cases q : d' = d
                  · subst q
                    rw [hb] at e1
                    cases e1
                    exact hvis
                  · exact hV3.2.2.1.2.2 _ (hdn d' u' (by omega) e1 e2)
                · exact skip (fun u' y q => by rw [hb] at y; cases y; exact z1 (f1 q))
            · have hd4 : d = 4 := by
                by_cases q : d < 4
                · exact absurd (nlt q (by decide) : nI d < nI 4) hlt
                · omega
              subst hd4
              refine tp_lt (next w4 c2 q2 m2 ⟨v1, v2, v3, v4, v5⟩ (fun y hy hr => ?_))
              rw [ht] at hr
              rcases hr with ⟨u', v, e1, -⟩ | ⟨u', v, e1, e2, g1, g2, g3⟩ | ⟨t', e1, e2, g1, g2, g3, g4, g5⟩ | ⟨t', e1, -⟩
              · omega
              · have : v = t := by omega
                subst this
                obtain ⟨d, hd4, hb⟩ := (hL.1 u' v g3).1
                have hbk := beN_back hF (hopR u' (hL.1 u' v g3).2.1) hd4 hb
                rw [e2]
                exact hdn _ u' (Nat.mod_lt _ (by decide)) hbk g3
              · have : t' = t := by omega
                subst this
                rw [e2]; exact hin g5
              · omega
          refine tp_ite (fun z3 => ?_) (fun z3 => ?_)
          · have hnc : ¬ c t := fun y => by rw [show wI w3 (166 + 15) t = 1 from k1 y] at z3; exact absurd z3 (by decide)
            have hvz : tp (sh_259 166 ((nI 2 * nI t) + 1) (nI (que i)) w3) (fun _ w' => ∃ came' que' m', VSm op s e (rsd S op s e f c) (2 * s + 1) w3 came que m w' came' que' m' ∧ (came' (2 * t + 1)).isSome = true) := by
              rw [nI_m, nI_s]
              exact y_comes (y := 2 * t + 1) hB hA hi (by omega) (by rw [ht]; exact Or.inr (Or.inr (Or.inl ⟨t, rfl, rfl, ht8, hts, hte, hot, hnc⟩))) ⟨by rw [show (2 * t + 1) / 2 = t by omega]; exact hot, by omega, by omega⟩
            refine tp_gd (ib_nI (by omega) (by decide)) (tp_cl hvz (fun _ w5 h5 => ?_))
            obtain ⟨c3, q3, m3, hV3, hvis⟩ := h5
            exact rest w5 c3 q3 m3 hV3 (fun _ => hvis)
          · exact rest w3 came que m (VSm.refl hB hA) (fun y => absurd (show wI w3 (166 + 15) t = 0 from k2 y) z3)
    · have him2 : i = m := by
        by_cases q : i < m
        · exact absurd (nlt q (by omega)) hlt
        · omega
      subst him2
      refine tp_oout ⟨Or.inr ⟨rfl, fun x => (came x).isSome = true ∧ x < 288, clsd_of (rsd S op s e f c) (fun x y z => z) _ (fun x y hx hy z hr => ?_), ⟨by rw [hB.2.2.2.2.1.2.2]; rfl, by omega⟩, fun z => ?_⟩, hK.mono mkr, hFo⟩
      · obtain ⟨j, hj, ej⟩ := hB.2.2.2.1 x hx z.1
        exact ⟨(hex j hj).2 y hy (by rw [ej]; exact hr), hy⟩
      · obtain ⟨j, hj, ej⟩ := hB.2.2.2.1 (2 * e) z.2 z.1
        exact (hex j hj).1 ej
end RM
