/-! a WALK is judged, on both sides -/
/-- why a LINE is WRONG -/
noncomputable def whyN (S : Nat → Int32) (p j c d d0 far mn : Nat) : Nat := if itW S c d far = none then 1 else if S (19 + p) * nI mn < nI far then 2 else if 0 < j ∧ d = (d0 + 2) % 4 ∧ mn = 1 then 3 else 0
theorem ab_d : ∀ d, d < 4 → ∀ d0, d0 < 4 → ((if nI d - nI d0 < 0 then -(nI d - nI d0) else nI d - nI d0) = 2 ↔ d = (d0 + 2) % 4) := by decide
theorem zr_d : ∀ d, d < 4 → ∀ d0, d0 < 4 → (nI d = zrem (nI d0 + 2) 4 ↔ d = (d0 + 2) % 4) := by decide
section JU
variable {S : Nat → Int32} {v w w1 w2 : Wd} {a p t L j c d d0 far mn : Nat} {dd ff mm : Nat → Nat}
/-- the class: what is wrong of a LINE that can be gone -/
theorem x_wrong (hF : WF S) (hR : HR S w a) (hp : p < ix (S 2)) (h0 : wI w 60 0 = nI p) (hj : j < 30) (h1 : wI w 62 j = nI far) (h2 : wI w 63 j = nI mn) (h3 : wI w 61 j = nI d) (hd : d < 4) (hm : mn < 1000) (h4 : 0 < j → wI w 61 (j - 1) = nI d0 ∧ d0 < 4) : sh_133 60 a (nI j) w = some (if S (19 + p) * nI mn < nI far then 2 else if 0 < j ∧ d = (d0 + 2) % 4 ∧ mn = 1 then 3 else 0, w) := by
  have hib : ib (nI j) 30 = true := ib_nI hj (by decide)
  have hp6 := hF.p6 hp
  have hpa : atK S 2 19 0 (nI p) = S (19 + p) := by
    unfold atK
    have : isK S 2 (nI p) = true := by
      obtain ⟨A, eA, hA⟩ := hF.2.1
      rw [isK_nI (by omega) eA (by omega), decide_eq_true_eq]
      rw [eA, ix_nI (by omega)] at hp; exact hp
    rw [if_pos this, ix_nI (by omega)]
  unfold sh_133
  rw [if_pos (n0le (by omega)), if_neg (show ¬ (30 : Int32) ≤ nI j from nnle (b := j) (a := 30) (by omega) (by omega)), gd_t hib, h0, cl_e (x_paceOf hF hR (nI p)), hpa, gd_t hib, ix_nI (by omega), show wI w (60 + 3) j = nI mn from h2, show wI w (60 + 2) j = nI far from h1]
  by_cases k1 : S (19 + p) * nI mn < nI far
  · rw [if_pos k1, if_pos k1]
  · rw [if_neg k1, if_neg k1, jn_s, jn_s, gd_t hib]
    by_cases k2 : 0 < j
    · obtain ⟨h5, hd0⟩ := h4 k2
      rw [if_pos (jp k2 (by omega)), show nI j - 1 = nI (j - 1) from n_sub (y := 1) (by omega), gd_nI (by omega) (by decide), ix_nI (by omega), show wI w (60 + 1) j = nI d from h3, show wI w (60 + 1) (j - 1) = nI d0 from h5]
      have e135 : sh_135 (nI d - nI d0) w = some ((if nI d - nI d0 < 0 then -(nI d - nI d0) else nI d - nI d0), w) := rfl
      rw [cl_e e135]
      by_cases k3 : d = (d0 + 2) % 4
      · rw [if_pos ((ab_d d hd d0 hd0).mpr k3)]
        refine (if_pos rfl).trans ?_
        rw [gd_t hib, show wI w (60 + 3) j = nI mn from h2]
        by_cases k4 : mn = 1
        · rw [if_pos (show nI mn = 1 by rw [k4]; rfl), if_pos ⟨k2, k3, k4⟩]
        · rw [if_neg (show ¬ nI mn = (1 : Int32) from n_ne (b := 1) k4 (by omega) (by decide)), if_neg (fun z => k4 z.2.2)]
      · rw [if_neg (fun z => k3 ((ab_d d hd d0 hd0).mp z))]
        refine (if_neg (by decide)).trans ?_
        rw [if_neg (fun z => k3 z.2.1)]
    · rw [if_neg (show ¬ (0 : Int32) < nI j by rw [show j = 0 by omega]; decide)]
      refine (if_neg (by decide)).trans ?_
      rw [if_neg (fun z => k2 z.1)]
/-- the reference: how a LINE ends -/
def yLa (j : Nat) (e z : Int32) (w41 : Wd) : Option (((Int32 × Int32 × Int32) ⊕ ((Int32 × Int32) ⊕ (Int32 ⊕ Int32))) × Wd) := if 0 < z then (gd (ib 0 4) (stI w41 (166 + 13) (ix 0) z (fun w43 => some (.inr (.inr (.inr (nI (j + 1)))), w43)))) else (gd (ib 1 4) (gd (ib (nI (3 * j + 1)) 135) (gd (ib 1 4) (stI w41 (166 + 13) (ix 1) ((wI w41 (166 + 13) (ix 1)) + (wI w41 (166 + 4) (ix (nI (3 * j + 1))))) (fun w44 => gd (ib 2 4) (gd (ib (nI (3 * j + 2)) 135) (gd (ib 2 4) (stI w44 (166 + 13) (ix 2) ((wI w44 (166 + 13) (ix 2)) + (wI w44 (166 + 4) (ix (nI (3 * j + 2))))) (fun w45 => gd (ib 3 4) (stI w45 (166 + 13) (ix 3) e (fun w46 => lt (nI (j + 1) : Int32) (fun v2_47 => some (.inr (.inl (e, v2_47)), w46)))))))))))))
def yFi (j d : Nat) (e wy : Int32) (w35 : Wd) : Option (((Int32 × Int32 × Int32) ⊕ ((Int32 × Int32) ⊕ (Int32 ⊕ Int32))) × Wd) := jn (fun (v4_37 : Int32) (w38 : Wd) => jn (fun (v4_40 : Int32) (w41 : Wd) => yLa j e v4_40 w41) (fun j39 => if v4_37 = 0 then (if 0 < nI j then (gd (ib (nI (3 * j + 2)) 135) (if wI w38 (166 + 4) (ix (nI (3 * j + 2))) = 1 then (gd (ib (nI (3 * j) - 3) 135) (if nI d = zrem ((wI w38 (166 + 4) (ix (nI (3 * j) - 3))) + 2) 4 then (j39 3 w38) else (j39 v4_37 w38))) else (j39 v4_37 w38))) else (j39 v4_37 w38)) else (j39 v4_37 w38))) (fun j36 => if wy = 0 then (gd (ib (nI (3 * j + 1)) 135) (gd (ib (19 + (wI w35 166 32)) 10265) (gd (ib (nI (3 * j + 2)) 135) (if (wI w35 (166 + 2) (ix (19 + (wI w35 166 32)))) * (wI w35 (166 + 4) (ix (nI (3 * j + 2)))) < wI w35 (166 + 4) (ix (nI (3 * j + 1))) then (j36 2 w35) else (j36 wy w35))))) else (j36 wy w35))
def yRe (S : Nat → Int32) (p j c d d0 far mn : Nat) (v : Wd) (r : (Int32 × Int32) ⊕ (Int32 ⊕ Int32)) (v' : Wd) : Prop := Kp (fun q => q = 179) v v' ∧ ((¬ whyN S p j c d d0 far mn = 0 ∧ r = .inr (.inr (nI (j + 1))) ∧ wI v' 179 = up (wI v 179) 0 (nI (whyN S p j c d d0 far mn))) ∨ (whyN S p j c d d0 far mn = 0 ∧ ∃ u, itW S c d far = some u ∧ r = .inl (nI u, nI (j + 1)) ∧ wI v' 179 = up (up (up (wI v 179) 1 (wI v 179 1 + nI far)) 2 (wI v 179 2 + nI mn)) 3 (nI u)))
theorem y_la {e : Int32} {z : Int32} {k : Nat} (ek : z = nI k) (hz : k < 4) (ez : k = whyN S p j c d d0 far mn) (hj : j < 30) (h1 : wI v 170 (3 * j + 1) = nI far) (h2 : wI v 170 (3 * j + 2) = nI mn) (hu : k = 0 → ∃ u, itW S c d far = some u ∧ e = nI u) : tp (yLa j e z v) (fun r w' => ∃ q, r = .inr q ∧ yRe S p j c d d0 far mn v q w') := by
  have b1 : ib (nI (3 * j + 1)) 135 = true := ib_nI (by omega) (by decide)
  have b2 : ib (nI (3 * j + 2)) 135 = true := ib_nI (by omega) (by decide)
  have x1 : ix (nI (3 * j + 1)) = 3 * j + 1 := ix_nI (by omega)
  have x2 : ix (nI (3 * j + 2)) = 3 * j + 2 := ix_nI (by omega)
  unfold yLa
  rw [ek, x1, x2]
  by_cases z0 : k = 0
  · obtain ⟨u, hu, he⟩ := hu z0
    rw [z0, he]
    refine tp_ifn (by decide) (tp_gd (by decide) (tp_gd b1 (tp_gd (by decide) (tp_stG (fun u1 e1 k1 => tp_gd (by decide) (tp_gd b2 (tp_gd (by decide) (tp_stG (fun u2 e2 k2 => tp_gd (by decide) (tp_stG (fun u3 e3 k3 => tp_lt (tp_some ⟨_, rfl, (k1.trans k2).trans k3, Or.inr ⟨by rw [← ez, z0], u, hu, rfl, ?_⟩⟩))))))))))))
    have a1 : wI u1 170 (3 * j + 2) = nI mn := by rw [k1.I (by decide)]; exact h2
    have e1' : wI u1 179 = up (wI v 179) 1 (wI v 179 1 + wI v 170 (3 * j + 1)) := e1
    have e2' : wI u2 179 = up (wI u1 179) 2 (wI u1 179 2 + wI u1 170 (3 * j + 2)) := e2
    have e3' : wI u3 179 = up (wI u2 179) 3 (nI u) := e3
    rw [h1] at e1'
    rw [a1] at e2'
    rw [e3', e2', e1', up_o (show ¬ 2 = 1 by decide)]
  · refine tp_if (jp (by omega) (by omega)) (tp_gd (by decide) (tp_stG (fun u1 e1 k1 => tp_some ⟨_, rfl, k1, Or.inl ⟨by rw [← ez]; exact z0, rfl, ?_⟩⟩)))
    rw [← ez]; exact e1
theorem y_fi {e wy : Int32} (hS : wI v 168 = S) (hd : d < 4) (hm : mn < 1000) (hj : j < 30) (hp : p < 6) (h32 : wI v 166 32 = nI p) (h1 : wI v 170 (3 * j + 1) = nI far) (h2 : wI v 170 (3 * j + 2) = nI mn) (h4 : 0 < j → wI v 170 (3 * j - 3) = nI d0 ∧ d0 < 4) (hwy : (itW S c d far = none ∧ wy = 1) ∨ (∃ u, itW S c d far = some u ∧ e = nI u ∧ wy = 0)) : tp (yFi j d e wy v) (fun r w' => ∃ q, r = .inr q ∧ yRe S p j c d d0 far mn v q w') := by
  have b1 : ib (nI (3 * j + 1)) 135 = true := ib_nI (by omega) (by decide)
  have b2 : ib (nI (3 * j + 2)) 135 = true := ib_nI (by omega) (by decide)
  have x1 : ix (nI (3 * j + 1)) = 3 * j + 1 := ix_nI (by omega)
  have x2 : ix (nI (3 * j + 2)) = 3 * j + 2 := ix_nI (by omega)
  have g1 : wI v (166 + 4) (3 * j + 1) = nI far := h1
  have g2 : wI v (166 + 4) (3 * j + 2) = nI mn := h2
  unfold yFi
  refine tp_jn ?_
  rcases hwy with ⟨hn, ew⟩ | ⟨u, hu, he, ew⟩
  · rw [ew]
    exact tp_ifn (by decide) (tp_jn (tp_ifn (by decide) (y_la (k := 1) rfl (by decide) (by unfold whyN; rw [if_pos hn]) hj h1 h2 (fun z => absurd z (by decide)))))
  · rw [ew]
    have hu' : ¬ itW S c d far = none := by rw [hu]; exact fun z => by cases z
    refine tp_if rfl (tp_gd b1 ?_)
    rw [h32, l19, nI_p]
    refine tp_gd (ib_nI (by omega) (by decide)) (tp_gd b2 ?_)
    rw [ix_nI (show 19 + p < 2147483648 by omega), x1, x2, show wI v (166 + 2) (19 + p) = S (19 + p) from congrFun hS _, g1, g2]
    by_cases k1 : S (19 + p) * nI mn < nI far
    · exact tp_if k1 (tp_jn (tp_ifn (by decide) (y_la (k := 2) rfl (by decide) (by unfold whyN; rw [if_neg hu', if_pos k1]) hj h1 h2 (fun z => absurd z (by decide)))))
    · refine tp_ifn k1 (tp_jn (tp_if rfl ?_))
      by_cases k2 : 0 < j
      · obtain ⟨h5, hd0⟩ := h4 k2
        refine tp_if (jp k2 (by omega)) (tp_gd b2 ?_)
        rw [show nI (3 * j) - 3 = nI (3 * j - 3) from n_sub (y := 3) (by omega), g2]
        by_cases k4 : mn = 1
        · refine tp_if (show nI mn = 1 by rw [k4]; rfl) (tp_gd (ib_nI (by omega) (by decide)) ?_)
          rw [ix_nI (show 3 * j - 3 < 2147483648 by omega), show wI v (166 + 4) (3 * j - 3) = nI d0 from h5]
          by_cases k3 : d = (d0 + 2) % 4
          · exact tp_if ((zr_d d hd d0 hd0).mpr k3) (y_la (k := 3) rfl (by decide) (by unfold whyN; rw [if_neg hu', if_neg k1, if_pos ⟨k2, k3, k4⟩]) hj h1 h2 (fun z => absurd z (by decide)))
          · exact tp_ifn (fun z => k3 ((zr_d d hd d0 hd0).mp z)) (y_la (k := 0) rfl (by decide) (by unfold whyN; rw [if_neg hu', if_neg k1, if_neg (fun z => k3 z.2.1)]) hj h1 h2 (fun _ => ⟨u, hu, he⟩))
        · exact tp_ifn (n_ne (b := 1) k4 (by omega) (by decide)) (y_la (k := 0) rfl (by decide) (by unfold whyN; rw [if_neg hu', if_neg k1, if_neg (fun z => k4 z.2.2)]) hj h1 h2 (fun _ => ⟨u, hu, he⟩))
      · exact tp_ifn (by rw [show j = 0 by omega]; decide) (y_la (k := 0) rfl (by decide) (by unfold whyN; rw [if_neg hu', if_neg k1, if_neg (fun z => k2 z.1)]) hj h1 h2 (fun _ => ⟨u, hu, he⟩))
/-- the reference: a LINE -/
theorem y_jin (hF : WF S) (hS : wI v 168 = S) (hc : onR S c) (hd : d < 4) (hf : far < 1000) (hm : mn < 1000) (hj : j < 30) (hp : p < 6) (h32 : wI v 166 32 = nI p) (h1 : wI v 170 (3 * j + 1) = nI far) (h2 : wI v 170 (3 * j + 2) = nI mn) (h4 : 0 < j → wI v 170 (3 * j - 3) = nI d0 ∧ d0 < 4) : tp (itM (fun (s66 : Int32 × Int32 × Int32) (w33 : Wd) => match s66 with | (v1_29, v4_30, v5_31) => gd (ib ((3 * (nI j)) + 1) 135) (jn (fun (s65 : Unit) (w35 : Wd) => jn (fun (v4_37 : Int32) (w38 : Wd) => jn (fun (v4_40 : Int32) (w41 : Wd) => if 0 < v4_40 then (gd (ib 0 4) (stI w41 (166 + 13) (ix 0) v4_40 (fun w43 => some (.inr (.inr (.inr ((nI j) + 1))), w43)))) else (gd (ib 1 4) (gd (ib ((3 * (nI j)) + 1) 135) (gd (ib 1 4) (stI w41 (166 + 13) (ix 1) ((wI w41 (166 + 13) (ix 1)) + (wI w41 (166 + 4) (ix ((3 * (nI j)) + 1)))) (fun w44 => gd (ib 2 4) (gd (ib ((3 * (nI j)) + 2) 135) (gd (ib 2 4) (stI w44 (166 + 13) (ix 2) ((wI w44 (166 + 13) (ix 2)) + (wI w44 (166 + 4) (ix ((3 * (nI j)) + 2)))) (fun w45 => gd (ib 3 4) (stI w45 (166 + 13) (ix 3) v1_29 (fun w46 => lt ((nI j) + 1 : Int32) (fun v2_47 => some (.inr (.inl (v1_29, v2_47)), w46)))))))))))))) (fun j39 => if v4_37 = 0 then (if 0 < (nI j) then (gd (ib ((3 * (nI j)) + 2) 135) (if wI w38 (166 + 4) (ix ((3 * (nI j)) + 2)) = 1 then (gd (ib ((3 * (nI j)) - 3) 135) (if (nI d) = zrem ((wI w38 (166 + 4) (ix ((3 * (nI j)) - 3))) + 2) 4 then (j39 3 w38) else (j39 v4_37 w38))) else (j39 v4_37 w38))) else (j39 v4_37 w38)) else (j39 v4_37 w38))) (fun j36 => if v4_30 = 0 then (gd (ib ((3 * (nI j)) + 1) 135) (gd (ib (19 + (wI w35 166 32)) 10265) (gd (ib ((3 * (nI j)) + 2) 135) (if (wI w35 (166 + 2) (ix (19 + (wI w35 166 32)))) * (wI w35 (166 + 4) (ix ((3 * (nI j)) + 2))) < wI w35 (166 + 4) (ix ((3 * (nI j)) + 1)) then (j36 2 w35) else (j36 v4_30 w35))))) else (j36 v4_30 w35))) (fun j34 => if v5_31 < wI w33 (166 + 4) (ix ((3 * (nI j)) + 1)) then (if v4_30 = 0 then (cl (sh_251 166 v1_29 (nI d) w33) (fun r59 w58 => if 0 ≤ r59 then (gd (ib (25 + r59) 10265) (if wI w58 (166 + 2) (ix (25 + r59)) = 1 then (lt (v5_31 + 1 : Int32) (fun v5_62 => some (.inl (r59, 1, v5_62), w58))) else (lt (v5_31 + 1 : Int32) (fun v5_63 => some (.inl (r59, 0, v5_63), w58))))) else (lt (v5_31 + 1 : Int32) (fun v5_64 => some (.inl (r59, 1, v5_64), w58))))) else (j34 () w33)) else (j34 () w33)))) FU (nI c, 0, 0) v : Option (((Int32 × Int32) ⊕ (Int32 ⊕ Int32)) × Wd)) (yRe S p j c d d0 far mn v) := by
  have t0 : (3 : Int32) * nI j = nI (3 * j) := by rw [l3, nI_m]
  have t1 : nI (3 * j) + 1 = nI (3 * j + 1) := nI_s _
  have t2 : nI (3 * j) + 2 = nI (3 * j + 2) := by rw [l2, nI_p]
  have tj : nI j + 1 = nI (j + 1) := nI_s _
  rw [t0, t1, t2, tj]
  have b1 : ib (nI (3 * j + 1)) 135 = true := ib_nI (by omega) (by decide)
  have x1 : ix (nI (3 * j + 1)) = 3 * j + 1 := ix_nI (by omega)
  have g1 : wI v (166 + 4) (3 * j + 1) = nI far := h1
  refine tp_it (fun q s v' => v' = v ∧ q ≤ far ∧ ((∃ u, itW S c d q = some u ∧ s = (nI u, 0, nI q)) ∨ (itW S c d far = none ∧ ∃ e, s = (e, 1, nI q)))) far (by omega) ⟨rfl, by omega, Or.inl ⟨c, rfl, rfl⟩⟩ (fun q s v' hI => ?_)
  obtain ⟨ev, hq, hI⟩ := hI
  rw [ev]
  clear ev
  have fin : ∀ (e wy : Int32), (itW S c d far = none ∧ wy = 1) ∨ (∃ u, itW S c d far = some u ∧ e = nI u ∧ wy = 0) → tp (yFi j d e wy v) (lpQ (fun s' w' => q < far ∧ w' = v ∧ q + 1 ≤ far ∧ ((∃ u, itW S c d (q + 1) = some u ∧ s' = (nI u, 0, nI (q + 1))) ∨ (itW S c d far = none ∧ ∃ e, s' = (e, 1, nI (q + 1))))) (yRe S p j c d d0 far mn v)) := fun e wy hwy => tp_mono (y_fi hS hd hm hj hp h32 h1 h2 h4 hwy) (fun r w' hr => by
    obtain ⟨z, ez, hz⟩ := hr
    rw [ez]; exact hz)
  rcases hI with ⟨u, hu, es⟩ | ⟨hn, e, es⟩
  · subst es
    refine tp_gd b1 ?_
    by_cases y : q < far
    · have ho := itW_on hF hc hu
      refine tp_jn (tp_if ?_ (tp_if rfl (tp_ce (y_beside hF hS (ho.lt hF) hd) ?_)))
      · rw [x1, show wI v (166 + 4) (3 * j + 1) = nI far from g1]; exact nlt y (by omega)
      · have es := itW_s hu
        unfold stpW at es
        cases hb : beN S u d with
        | none =>
          rw [hb] at es
          refine tp_ifn m1_n0 (tp_lt (tp_on ⟨y, rfl, by omega, Or.inr ⟨itW_mono es (by omega), eNone none, ?_⟩⟩))
          rw [nI_s]
        | some z =>
          rw [hb] at es
          have hz := (beN_on hF ho hb).2
          rw [show eNone (some z) = nI z from rfl]
          refine tp_if (n0le (by omega)) ?_
          rw [l25, nI_p]
          refine tp_gd (ib_nI (by omega) (by decide)) ?_
          rw [ix_nI (show 25 + z < 2147483648 by omega), show wI v (166 + 2) (25 + z) = S (25 + z) from congrFun hS _]
          dsimp only at es
          by_cases k : S (25 + z) = 1
          · rw [if_pos k] at es
            refine tp_if k (tp_lt (tp_on ⟨y, rfl, by omega, Or.inr ⟨itW_mono es (by omega), nI z, ?_⟩⟩))
            rw [nI_s]
          · rw [if_neg k] at es
            refine tp_ifn k (tp_lt (tp_on ⟨y, rfl, by omega, Or.inl ⟨z, es, ?_⟩⟩))
            rw [nI_s]
    · have : q = far := by omega
      subst this
      refine tp_jn (tp_ifn ?_ ?_)
      · rw [x1, show wI v (166 + 4) (3 * j + 1) = nI q from g1]; exact nnlt (by omega) (by omega)
      · exact fin _ _ (Or.inr ⟨u, hu, rfl, rfl⟩)
  · subst es
    refine tp_gd b1 ?_
    by_cases y : q < far
    · refine tp_jn (tp_if ?_ (tp_ifn (by decide) ?_))
      · rw [x1, show wI v (166 + 4) (3 * j + 1) = nI far from g1]; exact nlt y (by omega)
      · exact fin _ _ (Or.inl ⟨hn, rfl⟩)
    · refine tp_jn (tp_ifn ?_ ?_)
      · rw [x1, show wI v (166 + 4) (3 * j + 1) = nI far from g1]; exact nnlt (by omega) (by omega)
      · exact fin _ _ (Or.inl ⟨hn, rfl⟩)
theorem j_judge (hF : WF S) (hR : HR S w1 a) (ha : a = 7 ∨ a = 17) (hS : wI w2 168 = S) (hp : p < ix (S 2)) (ht : onR S t) (hW : WS p t L dd ff mm w1 w2) : t2 (sh_132 60 a w1) (stI w2 166 35 1 (fun w11 => itM (fun (v1_12 : Int32) (w14 : Wd) => if v1_12 < 3 then (gd (ib v1_12 4) (stI w14 (166 + 13) (ix v1_12) 0 (fun w16 => lt (v1_12 + 1 : Int32) (fun v1_17 => some (.inl v1_17, w16))))) else (gd (ib 3 4) (stI w14 (166 + 13) (ix 3) (-1) (fun w18 => gd (ib (25 + (wI w18 166 33)) 10265) (if wI w18 (166 + 2) (ix (25 + (wI w18 166 33))) = 1 then (gd (ib 0 4) (stI w18 (166 + 13) (ix 0) 1 (fun w20 => some (.inr (0), w20)))) else (lt (wI w18 166 33 : Int32) (fun v1_21 => gd (ib 3 4) (stI w18 (166 + 13) (ix 3) v1_21 (fun w22 => itM (fun (s67 : Int32 × Int32) (w26 : Wd) => match s67 with | (v1_23, v2_24) => if v2_24 < wI w26 166 34 then (gd (ib (3 * v2_24) 135) (lt (wI w26 (166 + 4) (ix (3 * v2_24)) : Int32) (fun v3_28 => itM (fun (s66 : Int32 × Int32 × Int32) (w33 : Wd) => match s66 with | (v1_29, v4_30, v5_31) => gd (ib ((3 * v2_24) + 1) 135) (jn (fun (s65 : Unit) (w35 : Wd) => jn (fun (v4_37 : Int32) (w38 : Wd) => jn (fun (v4_40 : Int32) (w41 : Wd) => if 0 < v4_40 then (gd (ib 0 4) (stI w41 (166 + 13) (ix 0) v4_40 (fun w43 => some (.inr (.inr (.inr (v2_24 + 1))), w43)))) else (gd (ib 1 4) (gd (ib ((3 * v2_24) + 1) 135) (gd (ib 1 4) (stI w41 (166 + 13) (ix 1) ((wI w41 (166 + 13) (ix 1)) + (wI w41 (166 + 4) (ix ((3 * v2_24) + 1)))) (fun w44 => gd (ib 2 4) (gd (ib ((3 * v2_24) + 2) 135) (gd (ib 2 4) (stI w44 (166 + 13) (ix 2) ((wI w44 (166 + 13) (ix 2)) + (wI w44 (166 + 4) (ix ((3 * v2_24) + 2)))) (fun w45 => gd (ib 3 4) (stI w45 (166 + 13) (ix 3) v1_29 (fun w46 => lt (v2_24 + 1 : Int32) (fun v2_47 => some (.inr (.inl (v1_29, v2_47)), w46)))))))))))))) (fun j39 => if v4_37 = 0 then (if 0 < v2_24 then (gd (ib ((3 * v2_24) + 2) 135) (if wI w38 (166 + 4) (ix ((3 * v2_24) + 2)) = 1 then (gd (ib ((3 * v2_24) - 3) 135) (if v3_28 = zrem ((wI w38 (166 + 4) (ix ((3 * v2_24) - 3))) + 2) 4 then (j39 3 w38) else (j39 v4_37 w38))) else (j39 v4_37 w38))) else (j39 v4_37 w38)) else (j39 v4_37 w38))) (fun j36 => if v4_30 = 0 then (gd (ib ((3 * v2_24) + 1) 135) (gd (ib (19 + (wI w35 166 32)) 10265) (gd (ib ((3 * v2_24) + 2) 135) (if (wI w35 (166 + 2) (ix (19 + (wI w35 166 32)))) * (wI w35 (166 + 4) (ix ((3 * v2_24) + 2))) < wI w35 (166 + 4) (ix ((3 * v2_24) + 1)) then (j36 2 w35) else (j36 v4_30 w35))))) else (j36 v4_30 w35))) (fun j34 => if v5_31 < wI w33 (166 + 4) (ix ((3 * v2_24) + 1)) then (if v4_30 = 0 then (cl (sh_251 166 v1_29 v3_28 w33) (fun r59 w58 => if 0 ≤ r59 then (gd (ib (25 + r59) 10265) (if wI w58 (166 + 2) (ix (25 + r59)) = 1 then (lt (v5_31 + 1 : Int32) (fun v5_62 => some (.inl (r59, 1, v5_62), w58))) else (lt (v5_31 + 1 : Int32) (fun v5_63 => some (.inl (r59, 0, v5_63), w58))))) else (lt (v5_31 + 1 : Int32) (fun v5_64 => some (.inl (r59, 1, v5_64), w58))))) else (j34 () w33)) else (j34 () w33)))) FU (v1_23, 0, 0) w26))) else (some (.inr (.inr ((-1))), w26))) FU (v1_21, 0) w22))))))))) FU 0 w11)) (fun r1 v1 r2 v2 => r1 = r2 ∧ Kp (fun q => q = 60) w1 v1 ∧ Kp (fun q => q = 166 ∨ q = 179) w2 v2 ∧ Fm (fun j => j = 35) w2 v2 ∧ wI v1 60 6 = 1 ∧ wI v2 166 35 = 1 ∧ wI v1 60 7 = wI v2 179 0 ∧ wI v1 60 8 = wI v2 179 1 ∧ wI v1 60 9 = wI v2 179 2 ∧ wI v1 60 10 = wI v2 179 3) := by
  obtain ⟨hL, c1, c2, c3, c4, c5, c6, c7⟩ := hW
  have hp6 := hF.p6 hp
  have ht2 := ht.lt hF
  unfold sh_132
  obtain ⟨u1, eu1⟩ : ∃ u1, u1 = sI (sI (sI (sI (sI w1 60 6 1) 60 7 0) 60 8 0) 60 9 0) 60 10 (-1) := ⟨_, rfl⟩
  refine t2_s1 (t2_s1 (t2_s1 (t2_s1 (t2_s1 ?_))))
  rw [← eu1]
  have k1 : Kp (fun q => q = 60) w1 u1 := by
    rw [eu1]
    exact ((((kp0 (P := fun q => q = 60) rfl).sI rfl _ _).sI rfl _ _).sI rfl _ _).sI rfl _ _
  have z1 : wI u1 60 = up (up (up (up (up (wI w1 60) 6 1) 7 0) 8 0) 9 0) 10 (-1) := by rw [eu1, wI_up, wI_up, wI_up, wI_up, wI_up]
  clear eu1
  have lo1 : ∀ j, j < 3 → wI u1 60 j = wI w1 60 j := fun j hj => by rw [z1, up_o (by omega), up_o (by omega), up_o (by omega), up_o (by omega), up_o (by omega)]
  have hR1 : HR S u1 a := hR.kp k1 (fun q h1 h2 => by omega)
  rw [lo1 1 (by decide), c2]
  refine t2_e1 (x_isWall hF hR1 (nI t)) ?_
  rw [isWl_nI ht2]
  refine tp_swap ?_
  refine tp_stG (fun v1 e1 kv1 => ?_)
  have z35 : wI v1 166 35 = 1 := by rw [e1, up_s]
  refine tp_it (fun j s v => s = nI j ∧ j ≤ 3 ∧ (∀ i, i < j → wI v 179 i = 0) ∧ Kp (fun q => q = 179) v1 v) 3 (by omega) ⟨rfl, by omega, fun i hi => by omega, Kp.refl⟩ (fun j s v hI => ?_)
  obtain ⟨e, hj, g1, gk⟩ := hI
  subst e
  refine tp_ite (fun hlt => ?_) (fun hlt => ?_)
  · have hj8 : j < 3 := (nlt_i (by omega) (by decide)).mp (show nI j < nI 3 from hlt)
    rw [ix_nI (by omega), nI_s]
    refine tp_gd (ib_nI (by omega) (by decide)) (tp_stG (fun w3 e3 k3 => tp_lt (tp_on ⟨hj8, rfl, by omega, fun i hi => ?_, gk.trans k3⟩)))
    rw [show wI w3 179 = wI w3 (166 + 13) from rfl, e3]
    by_cases y : i = j
    · rw [y, up_s]
    · rw [up_o y]; exact g1 i (by omega)
  · have hj8 : j = 3 := by
      by_cases q : j < 3
      · exact absurd (nlt q (by decide) : nI j < nI 3) hlt
      · omega
    subst hj8
    refine tp_gd (by decide) (tp_stG (fun v2 e2 kv2 => ?_))
    have e2' : wI v2 179 = up (wI v 179) 3 (-1) := e2
    have kv : Kp (fun q => q = 166 ∨ q = 179) w2 v2 := (kv1.mono (fun q y => Or.inl y)).trans ((gk.trans kv2).mono (fun q y => Or.inr y))
    have fv : ∀ j, ¬ j = 35 → wI v2 166 j = wI w2 166 j := fun j hj => by rw [kv2.I (by decide), gk.I (by decide), e1, up_o hj]
    have v35 : wI v2 166 35 = 1 := by rw [kv2.I (by decide), gk.I (by decide)]; exact z35
    have v168 : wI v2 168 = S := by rw [kv.I (by decide)]; exact hS
    rw [fv 33 (by decide), c5, l25, nI_p]
    refine tp_gd (ib_nI (by omega) (by decide)) ?_
    rw [ix_nI (show 25 + t < 2147483648 by omega), show wI v2 (166 + 2) (25 + t) = S (25 + t) from congrFun v168 _]
    by_cases hw : S (25 + t) = 1
    · refine tp_if hw (tp_gd (by decide) (tp_stG (fun v3 e3 kv3 => tp_out ?_)))
      have e3' : wI v3 179 = up (wI v2 179) 0 1 := e3
      refine tp_if (decide_eq_true hw) (tp_stG (fun u2 f2 ku2 => tp_some ?_))
      refine ⟨rfl, k1.trans ku2, kv.trans (kv3.mono (fun q y => Or.inr y)), fun j hj => ?_, ?_, ?_, ?_, ?_, ?_, ?_⟩
      · rw [kv3.I (by decide)]; exact fv j hj
      · rw [f2, up_o (by decide), z1, up_o (by decide), up_o (by decide), up_o (by decide), up_o (by decide), up_s]
      · rw [kv3.I (by decide)]; exact v35
      · rw [f2, up_s, e3', up_s]
      · rw [f2, up_o (by decide), z1, up_o (by decide), up_o (by decide), up_s, e3', up_o (by decide), e2', up_o (by decide), g1 1 (by decide)]
      · rw [f2, up_o (by decide), z1, up_o (by decide), up_s, e3', up_o (by decide), e2', up_o (by decide), g1 2 (by decide)]
      · rw [f2, up_o (by decide), z1, up_s, e3', up_o (by decide), e2', up_s]
    · refine tp_ifn hw (tp_lt (tp_gd (by decide) (tp_stG (fun v3 e3 kv3 => ?_))))
      have e3' : wI v3 179 = up (wI v2 179) 3 (nI t) := e3
      refine tp_of_t2 (m1 := stI u1 60 10 (wI u1 60 1) (fun w10 => itM (fun (v2_11 : Int32) (w13 : Wd) => if v2_11 < wI w13 60 2 then (if v2_11 < 30 then (gd (ib v2_11 30) (gd (ib v2_11 30) (cl (sh_54 a (wI w13 60 10) (wI w13 (60 + 1) (ix v2_11)) (wI w13 (60 + 2) (ix v2_11)) w13) (fun r17 w16 => jn (fun (t19 : Int32) (w20 : Wd) => stI w20 60 7 t19 (fun w21 => if wI w21 60 7 = 0 then (gd (ib v2_11 30) (stI w21 60 8 ((wI w21 60 8) + (wI w21 (60 + 2) (ix v2_11))) (fun w23 => gd (ib v2_11 30) (stI w23 60 9 ((wI w23 60 9) + (wI w23 (60 + 3) (ix v2_11))) (fun w24 => stI w24 60 10 r17 (fun w25 => lt (v2_11 + 1 : Int32) (fun v2_26 => some (.inl v2_26, w25)))))))) else (some (.inr (v2_11 + 1), w21)))) (fun j18 => if r17 = (-1) then (j18 1 w16) else (cl (sh_133 60 a v2_11 w16) (fun r29 w28 => j18 r29 w28))))))) else (some (.inr ((-1)), w13))) else (some (.inr ((-1)), w13))) FU 0 w10)) (Q := fun r1 w1' r2 w2' => ∃ q, r2 = .inr q ∧ (r1 = q ∧ Kp (fun q => q = 60) w1 w1' ∧ Kp (fun q => q = 166 ∨ q = 179) w2 w2' ∧ Fm (fun j => j = 35) w2 w2' ∧ wI w1' 60 6 = 1 ∧ wI w2' 166 35 = 1 ∧ wI w1' 60 7 = wI w2' 179 0 ∧ wI w1' 60 8 = wI w2' 179 1 ∧ wI w1' 60 9 = wI w2' 179 2 ∧ wI w1' 60 10 = wI w2' 179 3)) (t2_g1 (fun u2 f2 ku2 => ?_)) (fun r1 x1 r2 x2 ex hq => ?_)
      · rw [lo1 1 (by decide), c2] at f2
        refine tp2_it (fun j s1 x1 s2 x2 => ∃ c, s1 = nI j ∧ s2 = (nI c, nI j) ∧ onR S c ∧ j ≤ L ∧ wI x1 60 10 = nI c ∧ wI x2 179 3 = nI c ∧ wI x1 60 8 = wI x2 179 1 ∧ wI x1 60 9 = wI x2 179 2 ∧ wI x1 60 7 = 0 ∧ wI x2 179 0 = 0 ∧ wI x1 60 6 = 1 ∧ (∀ q, q < 3 → wI x1 60 q = wI w1 60 q) ∧ Kp (fun q => q = 60) w1 x1 ∧ Kp (fun q => q = 179) v3 x2) 31 (by omega) ⟨t, rfl, rfl, ht, by omega, ?_, ?_, ?_, ?_, ?_, ?_, ?_, fun q hq => ?_, k1.trans ku2, Kp.refl⟩ (fun j s1 x1 s2 x2 hI => ?_)
        · rw [f2, up_s]
        · rw [e3', up_s]
        · rw [f2, up_o (by decide), z1, up_o (by decide), up_o (by decide), up_s, e3', up_o (by decide), e2', up_o (by decide), g1 1 (by decide)]
        · rw [f2, up_o (by decide), z1, up_o (by decide), up_s, e3', up_o (by decide), e2', up_o (by decide), g1 2 (by decide)]
        · rw [f2, up_o (by decide), z1, up_o (by decide), up_o (by decide), up_o (by decide), up_s]
        · rw [e3', up_o (by decide), e2', up_o (by decide), g1 0 (by decide)]
        · rw [f2, up_o (by decide), z1, up_o (by decide), up_o (by decide), up_o (by decide), up_o (by decide), up_s]
        · rw [f2, up_o (by omega)]; exact lo1 q hq
        · obtain ⟨c, es1, es2, hc, hj, d1, d2, d3, d4, d5, d6, d7, d8, kx, ky⟩ := hI
          subst es1; subst es2
          have y166 : ∀ q, ¬ q = 35 → wI x2 166 q = wI w2 166 q := fun q hq => by rw [ky.I (by decide), kv3.I (by decide)]; exact fv q hq
          have y170 : wI x2 170 = wI w2 170 := by rw [ky.I (by decide), kv3.I (by decide), kv.I (by decide)]
          have y168 : wI x2 168 = S := by rw [ky.I (by decide), kv3.I (by decide)]; exact v168
          have kyw : Kp (fun q => q = 166 ∨ q = 179) w2 x2 := (kv.trans (kv3.mono (fun q y => Or.inr y))).trans (ky.mono (fun q y => Or.inr y))
          have y35 : wI x2 166 35 = 1 := by rw [ky.I (by decide), kv3.I (by decide)]; exact v35
          have hRx : HR S x1 a := hR.kp kx (fun q h1 h2 => by omega)
          show t2 _ _ _
          rw [d8 2 (by decide), c3, y166 34 (by decide), c6]
          by_cases q : j < L
          · obtain ⟨a1, ⟨a2, a2'⟩, ⟨a3, a3'⟩, a4, a5, a6, b4, b5, b6⟩ := c7 j q
            have hib : ib (nI j) 30 = true := ib_nI (by omega) (by decide)
            have g61 : wI x1 61 j = nI (dd j) := by rw [kx.I (by decide)]; exact a4
            have g62 : wI x1 62 j = nI (ff j) := by rw [kx.I (by decide)]; exact a5
            have g63 : wI x1 63 j = nI (mm j) := by rw [kx.I (by decide)]; exact a6
            refine t2_if1 (nlt q (by omega)) (t2_if1 (show nI j < nI 30 from nlt (by omega) (by decide)) (t2_gd1 hib (t2_gd1 hib (t2_if2 (nlt q (by omega)) ?_))))
            rw [d1, ix_nI (show j < 2147483648 by omega), show wI x1 (60 + 1) j = nI (dd j) from g61, show wI x1 (60 + 2) j = nI (ff j) from g62, show (3 : Int32) * nI j = nI (3 * j) by rw [l3, nI_m]]
            refine t2_gd2 (ib_nI (by omega) (by decide)) (t2_lt2 ?_)
            rw [ix_nI (show 3 * j < 2147483648 by omega), show wI x2 (166 + 4) (3 * j) = nI (dd j) by rw [show wI x2 (166 + 4) = wI w2 170 from y170]; exact b4, ← show (3 : Int32) * nI j = nI (3 * j) by rw [l3, nI_m]]
            have h4 : 0 < j → dd (j - 1) < 4 ∧ wI x1 61 (j - 1) = nI (dd (j - 1)) ∧ wI x2 170 (3 * j - 3) = nI (dd (j - 1)) := fun hj0 => by
              obtain ⟨a1, -, -, a4, -, -, b4, -, -⟩ := c7 (j - 1) (by omega)
              refine ⟨a1, by rw [kx.I (by decide)]; exact a4, ?_⟩
              rw [y170, show 3 * j - 3 = 3 * (j - 1) by omega]; exact b4
            have hy := y_jin (c := c) (d0 := dd (j - 1)) hF y168 hc a1 (show ff j < 1000 by omega) (show mm j < 1000 by omega) (by omega) hp6 (by rw [y166 32 (by decide)]; exact c4) (by rw [y170]; exact b5) (by rw [y170]; exact b6) (fun hj0 => ⟨(h4 hj0).2.2, (h4 hj0).1⟩)
            refine t2_e1 (x_reach hF hRx hc a1 (show ff j < 1000 by omega)) ?_
            -- the class's why
            have xfin : ∀ (k : Nat), k < 4 → k = whyN S p j c (dd j) (dd (j - 1)) (ff j) (mm j) → t2 (stI x1 60 7 (nI k) (fun w21 => if wI w21 60 7 = 0 then (gd (ib (nI j) 30) (stI w21 60 8 ((wI w21 60 8) + (wI w21 (60 + 2) j)) (fun w23 => gd (ib (nI j) 30) (stI w23 60 9 ((wI w23 60 9) + (wI w23 (60 + 3) j)) (fun w24 => stI w24 60 10 (eNone (itW S c (dd j) (ff j))) (fun w25 => lt ((nI j) + 1 : Int32) (fun v2_26 => some (.inl v2_26, w25)))))))) else (some (.inr ((nI j) + 1), w21))) : Option ((Int32 ⊕ Int32) × Wd)) (itM (fun (s66 : Int32 × Int32 × Int32) (w33 : Wd) => match s66 with | (v1_29, v4_30, v5_31) => gd (ib ((3 * (nI j)) + 1) 135) (jn (fun (s65 : Unit) (w35 : Wd) => jn (fun (v4_37 : Int32) (w38 : Wd) => jn (fun (v4_40 : Int32) (w41 : Wd) => if 0 < v4_40 then (gd (ib 0 4) (stI w41 (166 + 13) (ix 0) v4_40 (fun w43 => some (.inr (.inr (.inr ((nI j) + 1))), w43)))) else (gd (ib 1 4) (gd (ib ((3 * (nI j)) + 1) 135) (gd (ib 1 4) (stI w41 (166 + 13) (ix 1) ((wI w41 (166 + 13) (ix 1)) + (wI w41 (166 + 4) (ix ((3 * (nI j)) + 1)))) (fun w44 => gd (ib 2 4) (gd (ib ((3 * (nI j)) + 2) 135) (gd (ib 2 4) (stI w44 (166 + 13) (ix 2) ((wI w44 (166 + 13) (ix 2)) + (wI w44 (166 + 4) (ix ((3 * (nI j)) + 2)))) (fun w45 => gd (ib 3 4) (stI w45 (166 + 13) (ix 3) v1_29 (fun w46 => lt ((nI j) + 1 : Int32) (fun v2_47 => some (.inr (.inl (v1_29, v2_47)), w46)))))))))))))) (fun j39 => if v4_37 = 0 then (if 0 < (nI j) then (gd (ib ((3 * (nI j)) + 2) 135) (if wI w38 (166 + 4) (ix ((3 * (nI j)) + 2)) = 1 then (gd (ib ((3 * (nI j)) - 3) 135) (if (nI (dd j)) = zrem ((wI w38 (166 + 4) (ix ((3 * (nI j)) - 3))) + 2) 4 then (j39 3 w38) else (j39 v4_37 w38))) else (j39 v4_37 w38))) else (j39 v4_37 w38)) else (j39 v4_37 w38))) (fun j36 => if v4_30 = 0 then (gd (ib ((3 * (nI j)) + 1) 135) (gd (ib (19 + (wI w35 166 32)) 10265) (gd (ib ((3 * (nI j)) + 2) 135) (if (wI w35 (166 + 2) (ix (19 + (wI w35 166 32)))) * (wI w35 (166 + 4) (ix ((3 * (nI j)) + 2))) < wI w35 (166 + 4) (ix ((3 * (nI j)) + 1)) then (j36 2 w35) else (j36 v4_30 w35))))) else (j36 v4_30 w35))) (fun j34 => if v5_31 < wI w33 (166 + 4) (ix ((3 * (nI j)) + 1)) then (if v4_30 = 0 then (cl (sh_251 166 v1_29 (nI (dd j)) w33) (fun r59 w58 => if 0 ≤ r59 then (gd (ib (25 + r59) 10265) (if wI w58 (166 + 2) (ix (25 + r59)) = 1 then (lt (v5_31 + 1 : Int32) (fun v5_62 => some (.inl (r59, 1, v5_62), w58))) else (lt (v5_31 + 1 : Int32) (fun v5_63 => some (.inl (r59, 0, v5_63), w58))))) else (lt (v5_31 + 1 : Int32) (fun v5_64 => some (.inl (r59, 1, v5_64), w58))))) else (j34 () w33)) else (j34 () w33)))) FU (nI c, 0, 0) x2 : Option (((Int32 × Int32) ⊕ (Int32 ⊕ Int32)) × Wd)) (lpq2 (fun t1 x1 t2 x2 => j < 31 ∧ ∃ c, t1 = nI (j + 1) ∧ t2 = (nI c, nI (j + 1)) ∧ onR S c ∧ j + 1 ≤ L ∧ wI x1 60 10 = nI c ∧ wI x2 179 3 = nI c ∧ wI x1 60 8 = wI x2 179 1 ∧ wI x1 60 9 = wI x2 179 2 ∧ wI x1 60 7 = 0 ∧ wI x2 179 0 = 0 ∧ wI x1 60 6 = 1 ∧ (∀ q, q < 3 → wI x1 60 q = wI w1 60 q) ∧ Kp (fun q => q = 60) w1 x1 ∧ Kp (fun q => q = 179) v3 x2) (fun r1 w1' r2 w2' => ∃ q, r2 = .inr q ∧ (r1 = q ∧ Kp (fun q => q = 60) w1 w1' ∧ Kp (fun q => q = 166 ∨ q = 179) w2 w2' ∧ Fm (fun j => j = 35) w2 w2' ∧ wI w1' 60 6 = 1 ∧ wI w2' 166 35 = 1 ∧ wI w1' 60 7 = wI w2' 179 0 ∧ wI w1' 60 8 = wI w2' 179 1 ∧ wI w1' 60 9 = wI w2' 179 2 ∧ wI w1' 60 10 = wI w2' 179 3))) := by
              intro k hk ek
              refine t2_g1 (fun x3 e3 k3 => ?_)
              rw [e3, up_s]
              by_cases z0 : k = 0
              · have ez : whyN S p j c (dd j) (dd (j - 1)) (ff j) (mm j) = 0 := by rw [← ek]; exact z0
                refine t2_if1 (by rw [z0]; rfl) (t2_gd1 hib (t2_g1 (fun x4 e4 k4 => t2_gd1 hib (t2_g1 (fun x5 e5 k5 => t2_g1 (fun x6 e6 k6 => t2_lt1 (tp_some (tp_mono hy (fun r w' hr => ?_)))))))))
                obtain ⟨ky2, hr⟩ := hr
                rcases hr with ⟨hz, -⟩ | ⟨-, u, hu, er, ew⟩
                · exact absurd ez hz
                · rw [er]
                  rw [hu] at e6
                  have kx6 : Kp (fun q => q = 60) x1 x6 := ((k3.trans k4).trans k5).trans k6
                  have m8 : wI x3 (60 + 2) j = nI (ff j) := by rw [k3.I (by decide)]; exact g62
                  have m9 : wI x4 (60 + 3) j = nI (mm j) := by rw [k4.I (by decide), k3.I (by decide)]; exact g63
                  rw [m8] at e4
                  rw [m9] at e5
                  refine ⟨by omega, u, by rw [nI_s], rfl, itW_on hF hc hu, by omega, ?_, ?_, ?_, ?_, ?_, ?_, ?_, fun q hq => ?_, kx.trans kx6, ky.trans ky2⟩
                  · rw [e6, up_s]; rfl
                  · rw [ew, up_s]
                  · rw [e6, up_o (by decide), e5, up_o (by decide), e4, up_s, up_o (by decide), ew, up_o (by decide), up_o (by decide), up_s, d3]
                  · rw [e6, up_o (by decide), e5, up_s, e4, up_o (by decide), e3, up_o (by decide), ew, up_o (by decide), up_s, d4]
                  · rw [e6, up_o (by decide), e5, up_o (by decide), e4, up_o (by decide), e3, up_s, z0]; rfl
                  · rw [ew, up_o (by decide), up_o (by decide), up_o (by decide)]; exact d6
                  · rw [e6, up_o (by decide), e5, up_o (by decide), e4, up_o (by decide), e3, up_o (by decide)]; exact d7
                  · rw [e6, up_o (by omega), e5, up_o (by omega), e4, up_o (by omega), e3, up_o (by omega)]; exact d8 q hq
              · have ez : ¬ whyN S p j c (dd j) (dd (j - 1)) (ff j) (mm j) = 0 := by rw [← ek]; exact z0
                refine t2_ifn1 (n_ne (b := 0) z0 (by omega) (by decide)) (tp_some (tp_mono hy (fun r w' hr => ?_)))
                obtain ⟨ky2, hr⟩ := hr
                rcases hr with ⟨-, er, ew⟩ | ⟨hz, -⟩
                · rw [er]
                  refine ⟨_, rfl, nI_s _, kx.trans k3, kyw.trans (ky2.mono (fun q y => Or.inr y)), fun q hq => ?_, ?_, ?_, ?_, ?_, ?_, ?_⟩
                  · rw [ky2.I (by decide)]; exact y166 q hq
                  · rw [e3, up_o (by decide)]; exact d7
                  · rw [ky2.I (by decide)]; exact y35
                  · rw [e3, up_s, ew, up_s, ek]
                  · rw [e3, up_o (by decide), ew, up_o (by decide)]; exact d3
                  · rw [e3, up_o (by decide), ew, up_o (by decide)]; exact d4
                  · rw [e3, up_o (by decide), ew, up_o (by decide), d1, d2]
                · exact absurd hz ez
            rw [jn_s]
            cases hu : itW S c (dd j) (ff j) with
            | none =>
              rw [hu] at xfin
              exact t2_if1 rfl (xfin 1 (by decide) (by unfold whyN; rw [if_pos hu]))
            | some u =>
              have hu' : ¬ itW S c (dd j) (ff j) = none := by rw [hu]; exact fun z => by cases z
              rw [hu] at xfin
              refine t2_ifn1 (n_m1 (by have := (itW_on hF hc hu).lt hF; show u < 1000; omega)) ?_
              refine t2_e1 (x_wrong (far := ff j) (mn := mm j) (d := dd j) (d0 := dd (j - 1)) hF hRx hp (by rw [d8 0 (by decide)]; exact c1) (by omega) g62 g63 g61 a1 (by omega) (fun hj0 => ⟨(h4 hj0).2.1, (h4 hj0).1⟩)) ?_
              by_cases kA : S (19 + p) * nI (mm j) < nI (ff j)
              · rw [if_pos kA]
                exact xfin 2 (by decide) (by unfold whyN; rw [if_neg hu', if_pos kA])
              · rw [if_neg kA]
                by_cases kB : 0 < j ∧ dd j = (dd (j - 1) + 2) % 4 ∧ mm j = 1
                · rw [if_pos kB]
                  exact xfin 3 (by decide) (by unfold whyN; rw [if_neg hu', if_neg kA, if_pos kB])
                · rw [if_neg kB]
                  exact xfin 0 (by decide) (by unfold whyN; rw [if_neg hu', if_neg kA, if_neg kB])
          · refine t2_ifn1 (nnlt (by omega) (by omega)) (t2_ifn2 (nnlt (by omega) (by omega)) (t2_end ?_))
            exact ⟨-1, rfl, rfl, kx, kyw, fun q hq => y166 q hq, d7, y35, by rw [d5, d6], d3, d4, by rw [d1, d2]⟩
      · obtain ⟨q, er, hq⟩ := hq
        rw [er]
        exact tp_ifn (by rw [decide_eq_false hw]; decide) ⟨r1, x1, ex, hq⟩
end JU
