/-! seen and lay, whole: the class's, the reference's -/
/-- doors are told once -/
def DS (S : Nat → Int32) : Prop := ∀ k l, k < ix (S 5) → l < ix (S 5) → S (169 + k) = S (169 + l) → k = l
def doorN (S : Nat → Int32) (k : Nat) : Nat := ix (S (169 + k))
def beP (S : Nat → Int32) (s e : Nat) : Prop := ∃ d, d < 4 ∧ beN S s d = some e
def seeOk (S : Nat → Int32) (k l : Nat) : Prop := k < ix (S 5) ∧ l < ix (S 5) ∧ ¬ k = l ∧ ¬ beP S (doorN S k) (doorN S l)
/-- the row that seen lays -/
noncomputable def seeL (S : Nat → Int32) (s e : Nat) : List Nat := @ite (List Nat) (frT S s ∧ frT S e) (Classical.propDecidable _) (layL S s e (frT S) 144) []
theorem eNone_eq {b : Option Nat} {e : Nat} (he : e < 2147483648) (hb : ∀ u, b = some u → u < 2147483648) : eNone b = nI e ↔ b = some e := by
  cases b with
  | none =>
    refine ⟨fun z => ?_, fun z => by cases z⟩
    rw [i_eq, i_nI he] at z
    have z2 : (-1 : Int) = e := z
    omega
  | some u =>
    have := hb u rfl
    refine ⟨fun z => ?_, fun z => by cases z; rfl⟩
    rw [(nI_eq this he).mp z]
section LA
variable {S : Nat → Int32} {w : Wd} {h o : Nat}
theorem door_t (hF : WF S) {k : Nat} (hk : k < ix (S 5)) : S (169 + k) = nI (doorN S k) ∧ onR S (doorN S k) ∧ doorN S k < 144 ∧ k < 8 ∧ isK S 5 (nI k) = true := by
  obtain ⟨t, et, ho⟩ := hF.2.2.2.2.2.2.2.2.1 k hk
  obtain ⟨a, ea, ha⟩ := hF.2.2.2.2.1
  have ht := ho.lt hF
  have hka : k < a := by rw [ea, ix_nI (by omega)] at hk; exact hk
  have : doorN S k = t := by unfold doorN; rw [et, ix_nI (by omega)]
  rw [this]
  exact ⟨et, ho, ht, by omega, by rw [isK_nI (by omega) ea (by omega)]; exact decide_eq_true hka⟩
theorem wl_o (hF : WF S) {t : Nat} (ht : onR S t) (hn : ¬ frT S t) : S (25 + t) = 1 := by
  rcases hF.2.2.2.2.2.2.2.1 t (ht.lt hF) with q | q
  · exact absurd ⟨ht, q⟩ hn
  · exact q
theorem x_areBeside (hF : WF S) (hR : HR S w h) {s e : Nat} (hs : onR S s) (he : e < 144) : tp (sh_141 h (nI s) (nI e) w) (fun v w' => (v = true ↔ beP S s e) ∧ w' = w) := by
  unfold sh_141
  refine tp_it (fun d s' w' => s' = nI d ∧ d ≤ 4 ∧ w' = w ∧ ∀ d', d' < d → ¬ beN S s d' = some e) 4 (by omega) ⟨rfl, Nat.zero_le _, rfl, fun d hd => by omega⟩ (fun d s' w' hI => ?_)
  obtain ⟨es, hd, ew, hno⟩ := hI
  subst es
  rw [ew]
  refine tp_ite (fun hlt => ?_) (fun hlt => ?_)
  · have hd4 : d < 4 := (nlt_i (by omega) (by decide)).mp (show nI d < nI 4 from hlt)
    have heq := eNone_eq (b := beN S s d) (e := e) (by omega) (fun u hu => by have := (beN_on hF hs hu).2; omega)
    refine tp_ifn (by rw [i_eq, i_nI (by omega)]; show ¬ (e : Int) = -1; omega) (tp_ce (x_stepFrom hF hR hs hd4) ?_)
    refine tp_ite (fun z => ?_) (fun z => ?_)
    · exact tp_out ⟨⟨fun _ => ⟨d, hd4, heq.mp z⟩, fun _ => rfl⟩, rfl⟩
    · rw [nI_s]
      refine tp_lt (tp_on ⟨hd4, rfl, by omega, rfl, fun d' h' => ?_⟩)
      by_cases q : d' = d
      · rw [q]; exact fun y => z (heq.mpr y)
      · exact hno d' (by omega)
  · have hd4 : ¬ d < 4 := fun y => hlt (nlt y (by decide))
    exact tp_out ⟨⟨fun z => (by cases z), fun ⟨d', h4, e4⟩ => absurd e4 (hno d' (by omega))⟩, rfl⟩
/-- what is asked for, told apart -/
theorem see_cases (S : Nat → Int32) (x y : Int32) : (∃ k l, x = nI k ∧ y = nI l ∧ k < ix (S 5) ∧ l < ix (S 5)) ∨ ¬ (isK S 5 x = true ∧ isK S 5 y = true) := by
  rcases Classical.em (isK S 5 x = true ∧ isK S 5 y = true) with q | q
  · obtain ⟨k, e, -, hk⟩ := isK_t q.1
    obtain ⟨l, e2, -, hl⟩ := isK_t q.2
    exact Or.inl ⟨k, l, e, e2, hk, hl⟩
  · exact Or.inr q
theorem x_seen_no (hX : XG S w) {x y : Int32} (hn : ¬ (isK S 5 x = true ∧ isK S 5 y = true)) : sh_138 0 x y w = some (-1, w) := by
  obtain ⟨hF, hW, hr, a, ha, h7, hR⟩ := hX
  unfold sh_138
  rw [der_e ha, cl_e (x_isDoorNumber hF hR x)]
  by_cases q : isK S 5 x = true
  · rw [if_pos q, der_e ha, cl_e (x_isDoorNumber hF hR y), if_neg (fun z => hn ⟨q, z⟩)]
  · rw [if_neg q]
theorem x_seen (hX : XG S w) (hD : DS S) {k l : Nat} (hk : k < ix (S 5)) (hl : l < ix (S 5)) : tp (sh_138 0 (nI k) (nI l) w) (fun v w' => (seeOk S k l ∧ v = nI (seeL S (doorN S k) (doorN S l)).length ∧ XL (seeL S (doorN S k) (doorN S l)) w' 67 ∧ Kp (fun q => 67 ≤ q ∧ q ≤ 73) w w') ∨ (¬ seeOk S k l ∧ v = -1 ∧ w' = w)) := by
  obtain ⟨hF, hW, hr, a, ha, h7, hR⟩ := hX
  obtain ⟨e1, o1, t1, k1, i1⟩ := door_t hF hk
  obtain ⟨e2, o2, t2, k2, i2⟩ := door_t hF hl
  have d1 : atK S 5 169 (-1) (nI k) = nI (doorN S k) := by unfold atK; rw [if_pos i1, ix_nI (by omega), e1]
  have d2 : atK S 5 169 (-1) (nI l) = nI (doorN S l) := by unfold atK; rw [if_pos i2, ix_nI (by omega), e2]
  unfold sh_138
  refine tp_der ha (tp_ce (x_isDoorNumber hF hR _) (tp_if i1 (tp_der ha (tp_ce (x_isDoorNumber hF hR _) (tp_if i2 (tp_der ha (tp_ce (x_doorTuft hF hR _) (tp_der ha (tp_ce (x_doorTuft hF hR _) ?_)))))))))
  rw [d1, d2]
  refine tp_ite (fun z => ?_) (fun z => ?_)
  · exact tp_some (Or.inr ⟨fun y => y.2.2.1 (hD k l hk hl (by rw [e1, e2]; exact z)), rfl, rfl⟩)
  · have hne : ¬ doorN S k = doorN S l := fun y => z (by rw [y])
    have hkl : ¬ k = l := fun y => hne (by rw [y])
    refine tp_der ha (tp_cl (x_areBeside hF hR o1 t2) (fun v w1 h1 => ?_))
    obtain ⟨hv, ew⟩ := h1
    rw [ew]
    refine tp_ite (fun z2 => ?_) (fun z2 => ?_)
    · exact tp_some (Or.inr ⟨fun y => y.2.2.2 (hv.mp z2), rfl, rfl⟩)
    · have hok : seeOk S k l := ⟨hk, hl, hkl, fun y => z2 (hv.mpr y)⟩
      have wl : ∀ t, onR S t → ¬ frT S t → S (25 + t) = 1 := fun t ht hn => by
        rcases hF.2.2.2.2.2.2.2.1 t (ht.lt hF) with q | q
        · exact absurd ⟨ht, q⟩ hn
        · exact q
      refine tp_der ha (tp_cl (P := fun v w' => v = nI (seeL S (doorN S k) (doorN S l)).length ∧ XL (seeL S (doorN S k) (doorN S l)) w' 67 ∧ Kp (fun q => 67 ≤ q ∧ q ≤ 73) w w') ?_ (fun v w' h' => tp_some (Or.inl ⟨hok, h'⟩)))
      rcases Classical.em (frT S (doorN S k) ∧ frT S (doorN S l)) with q | q
      · have es : seeL S (doorN S k) (doorN S l) = layL S (doorN S k) (doorN S l) (frT S) 144 := if_pos q
        rw [es]
        exact x_find hF hR (show a + 9 < 67 by omega) q.1 q.2 hne
      · have es : seeL S (doorN S k) (doorN S l) = [] := if_neg q
        rw [es]
        refine x_find0 hF hR (show a + 9 < 67 by omega) o1 o2 ?_
        rcases Classical.em (frT S (doorN S k)) with y | y
        · exact Or.inr (wl _ o2 (fun y2 => q ⟨y, y2⟩))
        · exact Or.inl (wl _ o1 y)
theorem y_door (hF : WF S) (p : Int32) : sh_199 p 0 (S 5 - 1) w = some (isK S 5 p, w) := by
  obtain ⟨a, ea, ha⟩ := hF.2.2.2.2.1
  exact isIn_K ea (by omega) p w
theorem y_seen_no (hF : WF S) (hS : wI w 168 = S) {x y : Int32} (hn : ¬ (isK S 5 x = true ∧ isK S 5 y = true)) : sh_256 166 x y w = some (-1, sI w 166 0 0) := by
  unfold sh_256
  rw [stI_s, gd_l (by decide) (by decide), show wI (sI w 166 0 0) (166 + 2) = S by rw [wI_row (by decide)]; exact hS]
  show cl (sh_199 x 0 (S 5 - 1) _) _ = _
  rw [cl_e (y_door hF x)]
  by_cases q : isK S 5 x = true
  · rw [if_pos q, gd_l (by decide) (by decide), show wI (sI w 166 0 0) (166 + 2) = S by rw [wI_row (by decide)]; exact hS]
    show cl (sh_199 y 0 (S 5 - 1) _) _ = _
    rw [cl_e (y_door hF y), if_neg (fun z => hn ⟨q, z⟩)]
  · rw [if_neg q]
theorem y_seen (hF : WF S) (hS : wI w 168 = S) (hD : DS S) {k l : Nat} (hk : k < ix (S 5)) (hl : l < ix (S 5)) : tp (sh_256 166 (nI k) (nI l) w) (fun v w' => (seeOk S k l ∧ v = nI (seeL S (doorN S k) (doorN S l)).length ∧ ML (seeL S (doorN S k) (doorN S l)) w' ∧ Kp snP w w' ∧ Fm (fun j => j = 43 ∨ j = 42 ∨ j = 0) w w') ∨ (¬ seeOk S k l ∧ v = -1 ∧ w' = sI w 166 0 0)) := by
  obtain ⟨e1, o1, t1, k1, i1⟩ := door_t hF hk
  obtain ⟨e2, o2, t2, k2, i2⟩ := door_t hF hl
  unfold sh_256
  refine tp_stI ?_
  obtain ⟨w0, ew0⟩ : ∃ w0, w0 = sI w 166 0 0 := ⟨_, rfl⟩
  rw [← ew0]
  have hS0 : wI w0 168 = S := by rw [ew0, wI_row (by decide)]; exact hS
  have hK0 : Kp snP w w0 := by rw [ew0]; exact kp0 (P := snP) (Or.inl rfl)
  have hF0 : Fm (fun j => j = 43 ∨ j = 42 ∨ j = 0) w w0 := fun j hj => by rw [ew0, wI_other (by omega)]
  have g1 : sh_199 (nI k) 0 (wI w0 (166 + 2) (ix 5) - 1) w0 = some (true, w0) := by
    rw [show wI w0 (166 + 2) = S from hS0, ← i1]; exact y_door hF _
  have g2 : sh_199 (nI l) 0 (wI w0 (166 + 2) (ix 5) - 1) w0 = some (true, w0) := by
    rw [show wI w0 (166 + 2) = S from hS0, ← i2]; exact y_door hF _
  have v1 : wI w0 (166 + 2) (ix (169 + nI k)) = nI (doorN S k) := by
    rw [l169, nI_p, ix_nI (by omega), show wI w0 (166 + 2) = S from hS0, e1]
  have v2 : wI w0 (166 + 2) (ix (169 + nI l)) = nI (doorN S l) := by
    rw [l169, nI_p, ix_nI (by omega), show wI w0 (166 + 2) = S from hS0, e2]
  refine tp_gd (by decide) (tp_ce g1 (tp_if rfl (tp_gd (by decide) (tp_ce g2 (tp_if rfl (tp_ite (fun z => ?_) (fun z => ?_)))))))
  · exact tp_some (Or.inr ⟨fun y => y.2.2.1 ((nI_eq (by omega) (by omega)).mp z), rfl, rfl⟩)
  · have hkl : ¬ k = l := fun y => z (by rw [y])
    have hne : ¬ doorN S k = doorN S l := fun y => hkl (hD k l hk hl (by rw [e1, e2, y]))
    rw [v1, v2]
    refine tp_gd (by rw [l169, nI_p]; exact ib_nI (by omega) (by decide)) (tp_lt (tp_gd (by rw [l169, nI_p]; exact ib_nI (by omega) (by decide)) (tp_lt ?_)))
    refine tp_it (fun d s' w' => s' = nI d ∧ d ≤ 4 ∧ w' = w0 ∧ ∀ d', d' < d → ¬ beN S (doorN S k) d' = some (doorN S l)) 4 (by omega) ⟨rfl, Nat.zero_le _, rfl, fun d hd => by omega⟩ (fun d s' w' hI => ?_)
    obtain ⟨es, hd, ew, hno⟩ := hI
    subst es
    rw [ew]
    refine tp_ite (fun hlt => ?_) (fun hlt => ?_)
    · have hd4 : d < 4 := (nlt_i (by omega) (by decide)).mp (show nI d < nI 4 from hlt)
      have heq := eNone_eq (b := beN S (doorN S k) d) (e := doorN S l) (by omega) (fun u hu => by have := (beN_on hF o1 hu).2; omega)
      refine tp_ce (y_beside (o := 166) hF hS0 t1 hd4) (tp_ite (fun z2 => ?_) (fun z2 => ?_))
      · exact tp_out (Or.inr ⟨fun y => y.2.2.2 ⟨d, hd4, heq.mp z2⟩, rfl, rfl⟩)
      · rw [nI_s]
        refine tp_lt (tp_on ⟨hd4, rfl, by omega, rfl, fun d' h' => ?_⟩)
        by_cases q : d' = d
        · rw [q]; exact fun y => z2 (heq.mpr y)
        · exact hno d' (by omega)
    · have hd4 : ¬ d < 4 := fun y => hlt (nlt y (by decide))
      have hok : seeOk S k l := ⟨hk, hl, hkl, fun ⟨d', h4, e4⟩ => hno d' (by omega) e4⟩
      refine tp_it (fun j s' w' => s' = nI j ∧ j ≤ 144 ∧ (∀ x, x < j → wI w' 185 x = 0) ∧ Kp snP w w' ∧ Fm (fun j => j = 43 ∨ j = 42 ∨ j = 0) w w') 144 (by omega) ⟨rfl, Nat.zero_le _, fun x hx => by omega, hK0, hF0⟩ (fun j s' w' hI => ?_)
      obtain ⟨es, hj, g3, gK, gF⟩ := hI
      subst es
      refine tp_ite (fun hlt => ?_) (fun hlt => ?_)
      · have hj8 : j < 144 := (nlt_i (by omega) (by decide)).mp (show nI j < nI 144 from hlt)
        rw [ix_nI (by omega), nI_s]
        refine tp_gd (ib_nI hj8 (by decide)) (tp_stI (tp_lt (tp_on ⟨hj8, rfl, by omega, fun x hx => ?_, gK.sI (by unfold snP; omega) _ _, fun k hk => by rw [wI_row (by decide)]; exact gF k hk⟩)))
        rw [show 166 + 19 = 185 from rfl, wI_up]
        unfold up
        by_cases q : x = j
        · rw [if_pos q]
        · rw [if_neg q]; exact g3 x (by omega)
      · have hj8 : j = 144 := by
          by_cases q : j < 144
          · exact absurd (nlt q (by decide) : nI j < nI 144) hlt
          · omega
        subst hj8
        have hS1 : wI w' 168 = S := by rw [gK.I (by unfold snP; omega)]; exact hS
        rcases Classical.em (frT S (doorN S k) ∧ frT S (doorN S l)) with q | q
        · have es : seeL S (doorN S k) (doorN S l) = layL S (doorN S k) (doorN S l) (frT S) 144 := if_pos q
          have hld : LDr S w' (frT S) := fun t ht => ⟨fun _ => g3 t (ht.1.lt hF), fun y => absurd ht y⟩
          refine tp_cl (y_rows hF hS1 (fun _ y => y) q.1 q.2 hne hld) (fun v w2 h2 => ?_)
          obtain ⟨hv, hK2, hF2⟩ := h2
          subst hv
          refine tp_stI ?_
          obtain ⟨w3, ew3⟩ : ∃ w3, w3 = sI w2 166 42 0 := ⟨_, rfl⟩
          rw [← ew3]
          have hK3 : Kp snP w w3 := by
            rw [ew3]
            exact (gK.trans (hK2.mono (fun q hq => by unfold rnP at hq; unfold snP; omega))).sI (Or.inl rfl) _ _
          have hF3 : Fm (fun j => j = 43 ∨ j = 42 ∨ j = 0) w w3 := fun j hj => by
            rw [ew3, wI_other (by omega), hF2 j (by omega)]; exact gF j hj
          refine tp_mono (y_seenL (R := Int32 ⊕ (Int32 ⊕ Int32)) (fun v => .inr (.inr v)) hF (by rw [hK3.I (by unfold snP; omega)]; exact hS) q.1 q.2 hne (fun t ht => ?_) ?_) (fun v w4 h4 => ?_)
          · rw [ew3, wI_row (by decide), hK2.I (by unfold rnP; omega)]; exact g3 t ht
          · rw [ew3, wI_same]
          · obtain ⟨hv, hM, hK4, hF4⟩ := h4
            subst hv
            exact Or.inl ⟨hok, by rw [es], by rw [es]; exact hM, hK3.trans hK4, fun j hj => by rw [hF4 j (by omega)]; exact hF3 j hj⟩
        · have es : seeL S (doorN S k) (doorN S l) = [] := if_neg q
          have hw : S (25 + doorN S k) = 1 ∨ S (25 + doorN S l) = 1 := by
            rcases Classical.em (frT S (doorN S k)) with y | y
            · exact Or.inr (wl_o hF o2 (fun y2 => q ⟨y, y2⟩))
            · exact Or.inl (wl_o hF o1 y)
          refine tp_cl (y_rows0 hF hS1 t1 t2 hw) (fun v w2 h2 => ?_)
          obtain ⟨hv, hK2, hF2⟩ := h2
          subst hv
          refine tp_stI ?_
          obtain ⟨w3, ew3⟩ : ∃ w3, w3 = sI w2 166 42 0 := ⟨_, rfl⟩
          rw [← ew3]
          have hK3 : Kp snP w w3 := by
            rw [ew3]
            exact (gK.trans (hK2.mono (fun q hq => by unfold rnP at hq; unfold snP; omega))).sI (Or.inl rfl) _ _
          have hF3 : Fm (fun j => j = 43 ∨ j = 42 ∨ j = 0) w w3 := fun j hj => by
            rw [ew3, wI_other (by omega), hF2 j (by omega)]; exact gF j hj
          refine tp_it (fun _ s' w' => s' = (0, 0) ∧ w' = w3) 0 (by omega) ⟨rfl, rfl⟩ (fun j s' w' hI => ?_)
          obtain ⟨es', ew'⟩ := hI
          subst es'
          rw [ew']
          refine tp_if (by decide) (tp_ifn (by decide) ?_)
          have e42 : wI w3 166 42 = 0 := by rw [ew3, wI_same]
          rw [e42]
          exact ⟨_, _, rfl, Or.inl ⟨hok, by rw [es]; rfl, by rw [es]; exact ⟨by decide, e42, fun j hj => absurd hj (by show ¬ j < 0; omega)⟩, hK3, hF3⟩⟩
/-- the i-th TUFT of the latest row -/
def layV (l : List Nat) (p : Int32) : Int32 := if 0 ≤ p ∧ p < nI l.length then nI (l.getD (ix p) 0) else -1
end LA
