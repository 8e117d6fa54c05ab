/-! where to lay rugs: rowsBetween, seen, lay -/
section SN
variable {S : Nat → Int32} {op : Nat → Prop} {s e : Nat} {f : Nat → Nat → Prop} {c : Nat → Prop} {w : Wd}
theorem y_rows (hF : WF S) (hS : wI w 168 = S) (hop : ∀ t, op t → frT S t) (hs : op s) (hoe : op e) (hse : ¬ s = e) (hld : LDr S w op) : tp (sh_257 166 (nI s) (nI e) w) (fun v w' => v = nI (mfN S op s e) ∧ Kp rnP w w' ∧ Fm (fun j => j = 43) w w') := by
  have hs8 := (hop s hs).1.lt hF
  have he8 := (hop e hoe).1.lt hF
  unfold sh_257
  refine tp_it (fun j s' w' => s' = nI j ∧ j ≤ 576 ∧ (∀ x, x < j → wI w' 180 x = 0) ∧ Kp rnP w w' ∧ Fm (fun j => j = 43) w w') 576 (by omega) ⟨rfl, Nat.zero_le _, fun x hx => by omega, Kp.refl, fun _ _ => rfl⟩ (fun j s' w' hI => ?_)
  obtain ⟨es, hj, g1, gK, gF⟩ := hI
  subst es
  refine tp_ite (fun hlt => ?_) (fun hlt => ?_)
  · have hj8 : j < 576 := (nlt_i (by omega) (by decide)).mp (show nI j < nI 576 from hlt)
    rw [ix_nI (by omega), nI_s]
    refine tp_gd (ib_nI hj8 (by decide)) (tp_stI (tp_lt (tp_on ⟨hj8, rfl, by omega, fun x hx => ?_, gK.sI (by unfold rnP; omega) _ _, fun k hk => by rw [wI_row (by decide)]; exact gF k hk⟩)))
    rw [show 166 + 14 = 180 from rfl, wI_up]
    unfold up
    by_cases q : x = j
    · rw [if_pos q]
    · rw [if_neg q]; exact g1 x (by omega)
  · have hj8 : j = 576 := by
      by_cases q : j < 576
      · exact absurd (nlt q (by decide) : nI j < nI 576) hlt
      · omega
    subst hj8
    refine tp_it (fun j s' w' => s' = nI j ∧ j ≤ 144 ∧ (∀ x, x < j → wI w' 181 x = 0) ∧ (∀ x, x < 576 → wI w' 180 x = 0) ∧ Kp rnP w w' ∧ Fm (fun j => j = 43) w w') 144 (by omega) ⟨rfl, Nat.zero_le _, fun x hx => by omega, g1, gK, gF⟩ (fun j s' w' hI => ?_)
    obtain ⟨es, hj, g2, g1, gK, gF⟩ := hI
    subst es
    refine tp_ite (fun hlt => ?_) (fun hlt => ?_)
    · have hj8 : j < 144 := (nlt_i (by omega) (by decide)).mp (show nI j < nI 144 from hlt)
      rw [ix_nI (by omega), nI_s]
      refine tp_gd (ib_nI hj8 (by decide)) (tp_stI (tp_lt (tp_on ⟨hj8, rfl, by omega, fun x hx => ?_, fun x hx => by rw [wI_row (by decide)]; exact g1 x hx, gK.sI (by unfold rnP; omega) _ _, fun k hk => by rw [wI_row (by decide)]; exact gF k hk⟩)))
      rw [show 166 + 15 = 181 from rfl, wI_up]
      unfold up
      by_cases q : x = j
      · rw [if_pos q]
      · rw [if_neg q]; exact g2 x (by omega)
    · have hj8 : j = 144 := by
        by_cases q : j < 144
        · exact absurd (nlt q (by decide) : nI j < nI 144) hlt
        · omega
      subst hj8
      have hS' : wI w' 168 = S := by rw [gK.I (by unfold rnP; omega)]; exact hS
      rw [l25, nI_p, nI_p, ix_nI (by omega), ix_nI (by omega), show wI w' (166 + 2) = S from hS', (hop s hs).2, (hop e hoe).2]
      refine tp_gd (ib_nI (by omega) (by decide)) (tp_ifn (by decide) (tp_gd (ib_nI (by omega) (by decide)) (tp_ifn (by decide) ?_)))
      have z0 : ∀ t, zs 144 (fun u => iv ((fun _ _ => False : Nat → Nat → Prop) u t)) = 0 := fun t => zs_0 (fun _ _ => iv_f id)
      have z1 : ∀ t, zs 144 (fun v => iv ((fun _ _ => False : Nat → Nat → Prop) t v)) = 0 := fun t => zs_0 (fun _ _ => iv_f id)
      refine tp_it (fun k s' w3 => ∃ f c, s' = nI k ∧ FLW S op s e f c (k : Nat) ∧ FAr S w3 180 f ∧ CMr s e w3 c ∧ Kp rnP w w3 ∧ Fm (fun j => j = 43) w w3) 5 (by omega) ⟨fun _ _ => False, fun _ => False, rfl, ⟨fun _ _ z => absurd z id, fun t _ _ _ => ⟨(z0 t).trans (iv_f (fun z : False => z)).symm, (z1 t).trans (iv_f (fun z : False => z)).symm⟩, z1 s, z0 e⟩, fun u v d hu hv hd e1 => ⟨fun z => absurd z id, fun _ => g1 _ (by have := hu.lt hF; omega)⟩, fun t ht _ _ => ⟨fun z => absurd z id, fun _ => g2 t ht⟩, gK, gF⟩ (fun k s' w3 hI => ?_)
      obtain ⟨f, c, es, hL, hf, hc, hK, hFo⟩ := hI
      subst es
      have hk4 := hL.le4
      have hld' : LDr S w3 op := by unfold LDr; rw [hK.I (by unfold rnP; omega)]; exact hld
      refine tp_cl (y_runsMore hF (by rw [hK.I (by unfold rnP; omega)]; exact hS) hL hop hs hoe hse hf hc hld') (fun v w4 h4 => ?_)
      obtain ⟨hv, hK4, hF4⟩ := h4
      rcases hv with ⟨hv, f4, c4, k1, k2, k3⟩ | ⟨hv, R, k1, k2, k3⟩
      · subst hv
        rw [nI_s]
        exact tp_if rfl (tp_lt (tp_on ⟨by omega, f4, c4, rfl, by rw [Int.natCast_add]; exact k1, k2, k3, hK.trans hK4, fun j hj => by rw [hF4 j hj]; exact hFo j hj⟩))
      · subst hv
        refine tp_ifn (by decide) ⟨_, _, rfl, ⟨?_, hK.trans hK4, fun j hj => by rw [hF4 j hj]; exact hFo j hj⟩⟩
        rw [mf_of hL hs8 he8 hse (Or.inl ⟨R, k1, k2, k3⟩)]
theorem y_rows0 (hF : WF S) (hS : wI w 168 = S) {a b : Nat} (ha : a < 144) (hb : b < 144) (hw : S (25 + a) = 1 ∨ S (25 + b) = 1) : tp (sh_257 166 (nI a) (nI b) w) (fun v w' => v = 0 ∧ Kp rnP w w' ∧ Fm (fun j => j = 43) w w') := by
  unfold sh_257
  refine tp_it (fun j s' w' => s' = nI j ∧ j ≤ 576 ∧ Kp rnP w w' ∧ Fm (fun j => j = 43) w w') 576 (by omega) ⟨rfl, Nat.zero_le _, Kp.refl, fun _ _ => rfl⟩ (fun j s' w' hI => ?_)
  obtain ⟨es, hj, gK, gF⟩ := hI
  subst es
  refine tp_ite (fun hlt => ?_) (fun hlt => ?_)
  · have hj8 : j < 576 := (nlt_i (by omega) (by decide)).mp (show nI j < nI 576 from hlt)
    rw [nI_s]
    exact tp_gd (ib_nI hj8 (by decide)) (tp_stI (tp_lt (tp_on ⟨hj8, rfl, by omega, gK.sI (by unfold rnP; omega) _ _, fun k hk => by rw [wI_row (by decide)]; exact gF k hk⟩)))
  · refine tp_it (fun j s' w' => s' = nI j ∧ j ≤ 144 ∧ Kp rnP w w' ∧ Fm (fun j => j = 43) w w') 144 (by omega) ⟨rfl, Nat.zero_le _, gK, gF⟩ (fun j s' w' hI => ?_)
    obtain ⟨es, hj, gK, gF⟩ := hI
    subst es
    refine tp_ite (fun hlt => ?_) (fun hlt => ?_)
    · have hj8 : j < 144 := (nlt_i (by omega) (by decide)).mp (show nI j < nI 144 from hlt)
      rw [nI_s]
      exact tp_gd (ib_nI hj8 (by decide)) (tp_stI (tp_lt (tp_on ⟨hj8, rfl, by omega, gK.sI (by unfold rnP; omega) _ _, fun k hk => by rw [wI_row (by decide)]; exact gF k hk⟩)))
    · have hS' : wI w' 168 = S := by rw [gK.I (by unfold rnP; omega)]; exact hS
      rw [l25, nI_p, nI_p, ix_nI (by omega), ix_nI (by omega), show wI w' (166 + 2) = S from hS']
      refine tp_gd (ib_nI (by omega) (by decide)) (tp_ite (fun z => ?_) (fun z => ?_))
      · exact tp_oout ⟨rfl, gK, gF⟩
      · refine tp_gd (ib_nI (by omega) (by decide)) (tp_if ?_ (tp_oout ⟨rfl, gK, gF⟩))
        rcases hw with q | q
        · exact absurd q z
        · exact q
/-- the rugs laid, as the reference holds them -/
def ML (l : List Nat) (w : Wd) : Prop := l.length ≤ 4 ∧ wI w 166 42 = nI l.length ∧ ∀ j, j < l.length → wI w 184 j = nI (l.getD j 0)
def snP (q : Nat) : Prop := q = 166 ∨ 180 ≤ q ∧ q ≤ 185
/-- the loop of seen: the doors' TUFTS s, e -/
theorem y_seenL {R : Type} (g : Int32 → R) (hF : WF S) (hS : wI w 168 = S) (hs : frT S s) (he : frT S e) (hse : ¬ s = e) (hld : ∀ t, t < 144 → wI w 185 t = 0) (e42 : wI w 166 42 = 0) : tp (itM (fun (s54 : Int32 × Int32) (w31 : Wd) => match s54 with | (v5_28, v6_29) => if v6_29 < 144 then (if 0 < v5_28 then (cl (sh_216 166 v6_29 w31) (fun r35 w34 => if r35 = true then (gd (ib (25 + v6_29) 10265) (if wI w34 (166 + 2) (ix (25 + v6_29)) = 1 then (lt (v6_29 + 1 : Int32) (fun v6_38 => some (.inl (v5_28, v6_38), w34))) else (if v6_29 = nI s then (lt (v6_29 + 1 : Int32) (fun v6_40 => some (.inl (v5_28, v6_40), w34))) else (if v6_29 = nI e then (lt (v6_29 + 1 : Int32) (fun v6_42 => some (.inl (v5_28, v6_42), w34))) else (gd (ib v6_29 144) (stI w34 (166 + 19) (ix v6_29) 1 (fun w43 => cl (sh_257 166 (nI s) (nI e) w43) (fun r45 w44 => if r45 < v5_28 then (lt (v5_28 + (-1) : Int32) (fun v5_47 => gd (ib (wI w44 166 42) 144) (stI w44 (166 + 18) (ix (wI w44 166 42)) v6_29 (fun w48 => stI w48 166 42 ((wI w48 166 42) + 1) (fun w49 => lt (v6_29 + 1 : Int32) (fun v6_50 => some (.inl (v5_47, v6_50), w49))))))) else (gd (ib v6_29 144) (stI w44 (166 + 19) (ix v6_29) 0 (fun w51 => lt (v6_29 + 1 : Int32) (fun v6_52 => some (.inl (v5_28, v6_52), w51))))))))))))) else (lt (v6_29 + 1 : Int32) (fun v6_53 => some ((.inl (v5_28, v6_53) : (Int32 × Int32) ⊕ R), w34))))) else (some (.inr (g (wI w31 166 42)), w31))) else (some (.inr (g (wI w31 166 42)), w31))) FU (nI (mfN S (frT S) s e), 0) w) (fun v w' => v = g (nI (layL S s e (frT S) 144).length) ∧ ML (layL S s e (frT S) 144) w' ∧ Kp snP w w' ∧ Fm (fun j => j = 43 ∨ j = 42) w w') := by
  have hs8 := hs.1.lt hF
  have he8 := he.1.lt hF
  have opl0 : opL (frT S) [] = frT S := by
    funext t
    exact propext ⟨fun z => z.1, fun z => ⟨z, List.not_mem_nil⟩⟩
  have ofl : ∀ l t, opL (frT S) l t → t < 144 := fun l t z => z.1.1.lt hF
  have mf4 := mf_le4 (S := S) (op := frT S) (s := s) (e := e)
  refine tp_it (fun T s' w2 => T ≤ 144 ∧ ∃ n, s' = (nI n, nI T) ∧ n = mfN S (opL (frT S) (layL S s e (frT S) T)) s e ∧ n + (layL S s e (frT S) T).length = mfN S (frT S) s e ∧ (∀ t, t < 144 → (t ∈ layL S s e (frT S) T → wI w2 185 t = 1) ∧ (¬ t ∈ layL S s e (frT S) T → wI w2 185 t = 0)) ∧ ML (layL S s e (frT S) T) w2 ∧ (∀ x, x ∈ layL S s e (frT S) T → x < T) ∧ ¬ s ∈ layL S s e (frT S) T ∧ ¬ e ∈ layL S s e (frT S) T ∧ Kp snP w w2 ∧ Fm (fun j => j = 43 ∨ j = 42) w w2) 144 (by omega) ⟨Nat.zero_le _, mfN S (frT S) s e, rfl, ?_, ?_, fun t ht => ⟨fun z => absurd z List.not_mem_nil, fun _ => hld t ht⟩, ⟨by show 0 ≤ 4; omega, e42, fun j hj => absurd hj (by show ¬ j < 0; omega)⟩, fun x hx => absurd hx List.not_mem_nil, List.not_mem_nil, List.not_mem_nil, Kp.refl, fun _ _ => rfl⟩ (fun T s' w2 hI => ?_)
  · show mfN S (frT S) s e = mfN S (opL (frT S) []) s e
    rw [opl0]
  · rfl
  obtain ⟨hT, n, es, en, hsum, hla, hML, hmem, hsl, hel, hK, hFo⟩ := hI
  subst es
  obtain ⟨l, el⟩ : ∃ l, l = layL S s e (frT S) T := ⟨_, rfl⟩
  rw [← el] at en hsum hla hML hmem hsl hel
  have fin : (T = 144 ∨ n = 0) → tp (some ((.inr (g (wI w2 166 42)) : (Int32 × Int32) ⊕ R), w2)) (lpQ (fun s' w2 => T < 144 ∧ T + 1 ≤ 144 ∧ ∃ n, s' = (nI n, nI (T + 1)) ∧ n = mfN S (opL (frT S) (layL S s e (frT S) (T + 1))) s e ∧ n + (layL S s e (frT S) (T + 1)).length = mfN S (frT S) s e ∧ (∀ t, t < 144 → (t ∈ layL S s e (frT S) (T + 1) → wI w2 185 t = 1) ∧ (¬ t ∈ layL S s e (frT S) (T + 1) → wI w2 185 t = 0)) ∧ ML (layL S s e (frT S) (T + 1)) w2 ∧ (∀ x, x ∈ layL S s e (frT S) (T + 1) → x < T + 1) ∧ ¬ s ∈ layL S s e (frT S) (T + 1) ∧ ¬ e ∈ layL S s e (frT S) (T + 1) ∧ Kp snP w w2 ∧ Fm (fun j => j = 43 ∨ j = 42) w w2) (fun v w' => v = g (nI (layL S s e (frT S) 144).length) ∧ ML (layL S s e (frT S) 144) w' ∧ Kp snP w w' ∧ Fm (fun j => j = 43 ∨ j = 42) w w')) := by
    intro hz
    have e144 : layL S s e (frT S) 144 = l := by
      rcases hz with z | z
      · rw [el, z]
      · have := lay_end (S := S) (op := frT S) (s := s) (e := e) (T := T) (by rw [← el, ← en, z]) (144 - T)
        rw [show T + (144 - T) = 144 by omega] at this
        rw [this, el]
    refine tp_out ⟨?_, ?_, hK, hFo⟩
    · rw [e144]; exact congrArg g hML.2.1
    · rw [e144]; exact hML
  have hS2 : wI w2 168 = S := by rw [hK.I (by unfold snP; omega)]; exact hS
  refine tp_ite (fun hlt => ?_) (fun hlt => ?_)
  · have hT8 : T < 144 := (nlt_i (by omega) (by decide)).mp (show nI T < nI 144 from hlt)
    refine tp_ite (fun z => ?_) (fun z => ?_)
    · have hpos : 0 < n := (nlt_i (by decide) (by omega)).mp (show nI 0 < nI n from z)
      have skip : ¬ need S s e (opL (frT S) l) T → ∀ w3 : Wd, (∀ t, t < 144 → (t ∈ l → wI w3 185 t = 1) ∧ (¬ t ∈ l → wI w3 185 t = 0)) → ML l w3 → Kp snP w w3 → Fm (fun j => j = 43 ∨ j = 42) w w3 → tp (lt (nI T + 1 : Int32) (fun v6_38 => some ((.inl (nI n, v6_38) : (Int32 × Int32) ⊕ R), w3))) (lpQ (fun s' w2 => T < 144 ∧ T + 1 ≤ 144 ∧ ∃ n, s' = (nI n, nI (T + 1)) ∧ n = mfN S (opL (frT S) (layL S s e (frT S) (T + 1))) s e ∧ n + (layL S s e (frT S) (T + 1)).length = mfN S (frT S) s e ∧ (∀ t, t < 144 → (t ∈ layL S s e (frT S) (T + 1) → wI w2 185 t = 1) ∧ (¬ t ∈ layL S s e (frT S) (T + 1) → wI w2 185 t = 0)) ∧ ML (layL S s e (frT S) (T + 1)) w2 ∧ (∀ x, x ∈ layL S s e (frT S) (T + 1) → x < T + 1) ∧ ¬ s ∈ layL S s e (frT S) (T + 1) ∧ ¬ e ∈ layL S s e (frT S) (T + 1) ∧ Kp snP w w2 ∧ Fm (fun j => j = 43 ∨ j = 42) w w2) (fun v w' => v = g (nI (layL S s e (frT S) 144).length) ∧ ML (layL S s e (frT S) 144) w' ∧ Kp snP w w' ∧ Fm (fun j => j = 43 ∨ j = 42) w w')) := by
        intro hno w3 a1 a2 a3 a4
        have el2 : layL S s e (frT S) (T + 1) = l := by
          rw [el] at hno ⊢
          exact lay_f hno
        rw [nI_s, el2]
        exact tp_lt (tp_on ⟨hT8, by omega, n, rfl, en, hsum, a1, a2, fun x hx => by have := hmem x hx; omega, hsl, hel, a3, a4⟩)
      have skip2 := fun hno => skip hno w2 hla hML hK hFo
      have hnop : ¬ frT S T → ¬ need S s e (opL (frT S) l) T := fun h1 h2 => h1 (need_op (ofl l) hse hs8 he8 hT8 h2).1
      refine tp_ce (y_isTuft (o := 166) hS2 _) (tp_ite (fun z1 => ?_) (fun z1 => ?_))
      · have hTo : onR S T := by
          obtain ⟨k, e1, hk, ho⟩ := isT_t hF z1
          rw [nI_eq (by omega) (by omega)] at e1
          rw [e1]; exact ho
        rw [l25, nI_p, ix_nI (by omega), show wI w2 (166 + 2) = S from hS2]
        refine tp_gd (ib_nI (by omega) (by decide)) (tp_ite (fun z2 => ?_) (fun z2 => ?_))
        · exact skip2 (hnop (fun y => by rw [y.2] at z2; exact absurd z2 (by decide)))
        · have hfT : frT S T := ⟨hTo, by rcases hF.2.2.2.2.2.2.2.1 T hT8 with q | q; exact q; exact absurd q z2⟩
          refine tp_ite (fun z3 => ?_) (fun z3 => ?_)
          · exact skip2 (fun y => y.1 ((nI_eq (by omega) (by omega)).mp z3))
          · refine tp_ite (fun z4 => ?_) (fun z4 => ?_)
            · exact skip2 (fun y => y.2.1 ((nI_eq (by omega) (by omega)).mp z4))
            · have x1 : ¬ T = s := fun y => z3 (by rw [y])
              have x2 : ¬ T = e := fun y => z4 (by rw [y])
              have hTl : ¬ T ∈ l := fun y => by have := hmem T y; omega
              rw [ix_nI (by omega)]
              refine tp_gd (ib_nI hT8 (by decide)) (tp_stI ?_)
              have eop := opL_s (op := frT S) l T
              have hld2 : LDr S (sI w2 (166 + 19) T 1) (outO (opL (frT S) l) T) := fun t ht => by
                have ht8 := ht.1.lt hF
                rw [show 166 + 19 = 185 from rfl, wI_up]
                unfold up outO
                obtain ⟨k1, k2⟩ := hla t ht8
                by_cases y : t = T
                · rw [if_pos y]
                  exact ⟨fun q => absurd y q.2, fun _ => rfl⟩
                · rw [if_neg y]
                  refine ⟨fun q => k2 q.1.2, fun q => ?_⟩
                  rcases Classical.em (t ∈ l) with x | x
                  · exact k1 x
                  · exact absurd ⟨⟨ht, x⟩, y⟩ q
              have hK2 : Kp snP w (sI w2 (166 + 19) T 1) := hK.sI (by unfold snP; omega) _ _
              refine tp_cl (y_rows hF (by rw [hK2.I (by unfold snP; omega)]; exact hS) (fun t y => y.1.1) ⟨⟨hs, hsl⟩, fun y => x1 y.symm⟩ ⟨⟨he, hel⟩, fun y => x2 y.symm⟩ hse hld2) (fun v w4 h4 => ?_)
              obtain ⟨hv, hK4, hF4⟩ := h4
              subst hv
              have hK5 : Kp snP w w4 := hK2.trans (hK4.mono (fun q hq => by unfold rnP at hq; unfold snP; omega))
              have hF5 : Fm (fun j => j = 43 ∨ j = 42) w w4 := fun j hj => by rw [hF4 j (by omega), wI_row (by decide)]; exact hFo j hj
              have l185 : wI w4 185 = up (wI w2 185) T 1 := by rw [hK4.I (by unfold rnP; omega)]; exact wI_up
              have m4 : ML l w4 := by
                refine ⟨hML.1, by rw [hF4 42 (by decide), wI_row (by decide)]; exact hML.2.1, ?_⟩
                rw [hK4.I (k := 184) (by unfold rnP; omega), wI_row (by decide)]
                exact hML.2.2
              have mle := mf_le4 (S := S) (op := outO (opL (frT S) l) T) (s := s) (e := e)
              obtain ⟨fx, cx, Rx, hLx, -⟩ := mf_ex (S := S) (op := opL (frT S) l) (s := s) (e := e) (ofl l) hse hs8 he8
              obtain ⟨-, hn2⟩ := need_iff hLx (ofl l) hse hs8 he8 hT8 x1 x2
              refine tp_ite (fun z5 => ?_) (fun z5 => ?_)
              · have hlt5 := (nlt_i (by omega) (by omega)).mp z5
                have hneed : need S s e (opL (frT S) l) T := ⟨x1, x2, by rw [← en]; exact hlt5⟩
                have el2 : layL S s e (frT S) (T + 1) = l ++ [T] := by
                  rw [el] at hneed ⊢
                  exact lay_t hneed
                rw [m4.2.1, ix_nI (by have := m4.1; omega), n_dec hpos]
                refine tp_lt (tp_gd (ib_nI (by have := m4.1; omega) (by decide)) (tp_stI ?_))
                rw [wI_row (show ¬ 166 = 166 + 18 by decide), m4.2.1, nI_s, nI_s, el2]
                refine tp_stI (tp_lt (tp_on ⟨hT8, by omega, n - 1, rfl, ?_, ?_, fun t ht => ?_, ⟨?_, ?_, fun j hj => ?_⟩, fun x hx => ?_, ?_, ?_, (hK5.sI (by unfold snP; omega) _ _).sI (by unfold snP; omega) _ _, fun j hj => ?_⟩))
                · rw [eop]; omega
                · rw [List.length_append, List.length_singleton]; omega
                · rw [wI_row (by decide), wI_row (by decide), l185]
                  unfold up
                  obtain ⟨k1, k2⟩ := hla t ht
                  by_cases y : t = T
                  · rw [if_pos y]
                    exact ⟨fun _ => rfl, fun q => absurd (List.mem_append.mpr (Or.inr (List.mem_singleton.mpr y))) q⟩
                  · rw [if_neg y]
                    refine ⟨fun q => ?_, fun q => k2 (fun x => q (List.mem_append.mpr (Or.inl x)))⟩
                    rcases List.mem_append.mp q with x | x
                    · exact k1 x
                    · exact absurd (List.mem_singleton.mp x) y
                · rw [List.length_append, List.length_singleton]; omega
                · rw [wI_same, List.length_append, List.length_singleton]
                · rw [List.length_append, List.length_singleton] at hj
                  rw [wI_row (by decide), show 166 + 18 = 184 from rfl, wI_up, getD_app]
                  unfold up
                  by_cases y : j = l.length
                  · rw [if_pos y, if_neg (by omega), if_pos y]
                  · rw [if_neg y, if_pos (by omega)]
                    exact m4.2.2 j (by omega)
                · rcases List.mem_append.mp hx with y | y
                  · have := hmem x y; omega
                  · have := List.mem_singleton.mp y; omega
                · intro y
                  rcases List.mem_append.mp y with y | y
                  · exact hsl y
                  · exact x1 (List.mem_singleton.mp y).symm
                · intro y
                  rcases List.mem_append.mp y with y | y
                  · exact hel y
                  · exact x2 (List.mem_singleton.mp y).symm
                · rw [wI_other (by omega), wI_row (by decide)]; exact hF5 j hj
              · have hge : ¬ mfN S (outO (opL (frT S) l) T) s e < n := fun y => z5 (nlt y (by omega))
                refine tp_gd (ib_nI hT8 (by decide)) (tp_stI ?_)
                refine skip (fun y => hge (by rw [en]; exact y.2.2)) _ (fun t ht => ?_) ⟨m4.1, by rw [wI_row (by decide)]; exact m4.2.1, by rw [wI_row (by decide)]; exact m4.2.2⟩ (hK5.sI (by unfold snP; omega) _ _) (fun j hj => by rw [wI_row (by decide)]; exact hF5 j hj)
                rw [show 166 + 19 = 185 from rfl, wI_up, l185]
                unfold up
                obtain ⟨k1, k2⟩ := hla t ht
                by_cases y : t = T
                · rw [if_pos y]
                  exact ⟨fun q => absurd (y ▸ q) hTl, fun _ => rfl⟩
                · rw [if_neg y, if_neg y]; exact ⟨k1, k2⟩
      · exact skip2 (hnop (fun y => z1 (isT_of hF y.1)))
    · have hn0 : n = 0 := by
        by_cases q : n = 0
        · exact q
        · exact absurd (show (0 : Int32) < nI n from jp (by omega) (by omega)) z
      exact fin (Or.inr hn0)
  · have hT8 : T = 144 := by
      by_cases q : T < 144
      · exact absurd (nlt q (by decide) : nI T < nI 144) hlt
      · omega
    exact fin (Or.inl hT8)
end SN
