/-! READINGS: the reference goes through them all -/
def rdQ (S : Nat → Int32) (A : Nat → Nat) (b : Nat → Nat) (T Y B : Nat) (e : Nat) : Bool := fitB S A (fun t => b (4 * t + 2)) (fun t => b (4 * t + 3)) T Y (dg B Y e)
def rdPP (B Y e : Nat) : Nat := pcN (mkB (dg B Y e) Y)
def rmK (q : Nat) : Prop := q = 166 ∨ q = 175 ∨ q = 176 ∨ q = 177
section YT
variable {S : Nat → Int32} {w w' : Wd} {n T Y P B e fe : Nat} {b c A : Nat → Nat}
theorem by_le (hB : B ≤ 7) (hY : Y ≤ 6) (h0 : 0 < B) : B ^ Y ≤ 117649 := Nat.le_trans (Nat.pow_le_pow_left hB Y) (Nat.pow_le_pow_right (by decide) hY : 7 ^ Y ≤ 7 ^ 6)
theorem dg_0 (hB : 0 < B) {k : Nat} (hk : k < Y) : dg B Y 0 k = 0 := by
  have := dg_low (B := B) (k := 0) hB Y 0 k (by omega) (by omega)
  rw [Nat.zero_add, Nat.zero_mul] at this
  exact this
/-- what the tail leaves -/
def rdE (S : Nat → Int32) (A : Nat → Nat) (b : Nat → Nat) (T Y B : Nat) (w w' : Wd) (E cnt fe : Nat) : Prop := cnt ≤ E ∧ fe ≤ 6 ∧ RST (rdQ S A b T Y B) (dg B Y) (rdPP B Y) Y E cnt (fun k => wI w' 176 k) (fun k => wI w' 177 k) fe ∧ Kp rmK w w' ∧ Fm (fun j => j = 28 ∨ j = 29) w w' ∧ (cnt = 0 → wI w' 166 28 = wI w 166 28 ∧ wI w' 166 29 = wI w 166 29 ∧ wI w' 176 = wI w 176 ∧ wI w' 177 = wI w 177) ∧ (0 < cnt → wI w' 166 28 = nI Y ∧ wI w' 166 29 = nI fe)
theorem rdE.kp {E cnt : Nat} {w2 : Wd} (h : rdE S A b T Y B w w' E cnt fe) (hk : Kp (fun q => q = 175) w' w2) : rdE S A b T Y B w w2 E cnt fe := by
  unfold rdE at *
  obtain ⟨h1, h2, h3, h4, h5, h6, h7⟩ := h
  rw [hk.I (by decide), hk.I (by decide), hk.I (by decide)]
  exact ⟨h1, h2, h3, h4.trans (hk.mono (fun q y => Or.inr (Or.inl y))), fun j hj => by rw [hk.I (by decide)]; exact h5 j hj, h6, h7⟩
theorem y_tail (hF : WF S) (hS : wI w 168 = S) (hY : S 3 = nI Y) (hY6 : Y ≤ 6) (hP : S 2 = nI P) (hP6 : P ≤ 6) (hB : B = P + 1) (hT : T ≤ 8) (htr : ∀ t, t < T → ∀ k, k < 6 → wI w 174 (6 * t + k) = nI (rdP S A k t)) (hb : ∀ p, p < 4 * T → wI w 167 p &&& 255 = nI (b p) ∧ b p < 256) : tp (rdTail (nI T) w) (fun o w' => ∃ cnt fe, o = .inr (nI cnt) ∧ rdE S A b T Y B w w' (B ^ Y) cnt fe) := by
  have hB0 : 0 < B := by omega
  have hN := by_le (B := B) (Y := Y) (by omega) hY6 hB0
  have hN0 : 0 < B ^ Y := Nat.pow_pos hB0
  unfold rdTail
  refine tp_it (fun k st x => st = nI k ∧ k ≤ 6 ∧ (∀ j, j < k → wI x 175 j = 0) ∧ Kp (fun q => q = 175) w x) 6 (by omega) ⟨rfl, by omega, fun j hj => by omega, Kp.refl⟩ (fun k st x hI => ?_)
  obtain ⟨es, hk, h0, kx⟩ := hI
  rw [es]
  by_cases q : k < 6
  · rw [ix_nI (by omega)]
    refine tp_if (show nI k < nI 6 from nlt q (by omega)) (tp_gd (ib_nI q (by decide)) (tp_stG (fun x2 e2 k2 => tp_lt (tp_on ⟨q, nI_s k, by omega, fun j hj => ?_, kx.trans k2⟩))))
    rw [show wI x2 175 = wI x2 (166 + 9) from rfl, e2]
    by_cases y : j = k
    · rw [y, up_s]
    · rw [up_o y]; exact h0 j (by omega)
  · have : k = 6 := by omega
    subst this
    refine tp_ifn (by decide) ?_
    refine tp_it (fun j st y => j ≤ B ^ Y ∧ ∃ cnt fe, st = (nI cnt, bi (decide (j < B ^ Y))) ∧ (j < B ^ Y → ∀ k, k < Y → wI y 175 k = nI (dg B Y j k)) ∧ rdE S A b T Y B w y j cnt fe) (B ^ Y) (by omega) ⟨by omega, 0, 0, ?_, fun _ k hk => ?_, by omega, by omega, RST.zero, kx.mono (fun q y => Or.inr (Or.inl y)), fun j hj => by rw [kx.I (by decide)], fun _ => ⟨by rw [kx.I (by decide)], by rw [kx.I (by decide)], kx.I (by decide), kx.I (by decide)⟩, fun h => by omega⟩ (fun j st y hI => ?_)
    · rw [decide_eq_true hN0]; rfl
    · rw [h0 k (by omega), dg_0 hB0 hk]; rfl
    · obtain ⟨hj, cnt, fe, es, hd, hE⟩ := hI
      rw [es]
      show tp (if bi (decide (j < B ^ Y)) = 0 then _ else _) _
      by_cases q : j < B ^ Y
      · rw [decide_eq_true q]
        have hE0 := hE
        obtain ⟨hcj, hfe6, hR, kw, fm, c0, c1⟩ := hE
        have hSy : wI y 168 = S := by rw [kw.I (by unfold rmK; decide)]; exact hS
        have htry : ∀ t, t < T → ∀ k, k < 6 → wI y 174 (6 * t + k) = nI (rdP S A k t) := fun t ht k hk => by rw [kw.I (by unfold rmK; decide)]; exact htr t ht k hk
        have hby : ∀ p, p < 4 * T → wI y 167 p &&& 255 = nI (b p) ∧ b p < 256 := fun p hp => by rw [kw.I (by unfold rmK; decide)]; exact hb p hp
        have hdj := hd q
        have d7 : ∀ e k, dg B Y e k < 7 := fun e k => Nat.lt_of_lt_of_le (dg_lt hB0 _ _ _) (by omega)
        have dP : ∀ k, dg B Y j k ≤ P := fun k => by have := dg_lt (B := B) hB0 Y j k; omega
        refine tp_ifn (by decide) (tp_ce (y_isRd hF hSy hY hY6 hP hP6 hT (fun k hk => ⟨hdj k hk, dP k⟩) htry hby) ?_)
        have eq1 : fitB S A (fun t => b (4 * t + 2)) (fun t => b (4 * t + 3)) T Y (dg B Y j) = rdQ S A b T Y B j := rfl
        rw [eq1]
        cases hq : rdQ S A b T Y B j with
        | true =>
          have ez : (if nI (cnt + 1) = 1 then true else false : Bool) = decide (cnt = 0) := by
            by_cases z : cnt = 0
            · rw [z]; rfl
            · rw [if_neg (show ¬ nI (cnt + 1) = (1 : Int32) from n_ne (b := 1) (by omega) (by omega) (by decide)), decide_eq_false z]
          refine tp_if rfl (tp_lt ?_)
          rw [nI_s]
          refine tp_ltv ez (tp_cl (y_reads (fe := fe) hSy hY hY6 (fun k hk => ⟨hdj k hk, d7 _ _⟩) (decide (cnt = 0)) (fun z => (c1 (by
            have := of_decide_eq_false z
            omega)).2) (by omega)) (fun _ y2 hr => ?_))
          obtain ⟨k2, f2, e28, e29, hv⟩ := hr
          have hpp : pcN (mkB (dg B Y j) Y) = rdPP B Y j := rfl
          have hp6 : rdPP B Y j ≤ 6 := by
            show pcN (mkB (dg B Y j) Y) ≤ 6
            rw [← fs_pc _ (mkB_lt Y (fun k _ => d7 _ _))]
            exact fs_le _ 6
          rw [hpp] at e29
          refine tp_cl (y_nextRd (e := j) (B := B) (by rw [k2.I (by decide)]; exact hSy) hY hY6 hP hP6 hB q (fun k hk => by rw [k2.I (by decide)]; exact hdj k hk)) (fun r y3 hn => ?_)
          obtain ⟨k3, hn⟩ := hn
          have hE3 : rdE S A b T Y B w y2 (j + 1) (cnt + 1) (if cnt = 0 then rdPP B Y j else if rdPP B Y j < fe then rdPP B Y j else fe) := by
            refine ⟨by omega, ?_, hR.hit hq d7 (fun k hk => ?_) (fun k hk => ?_) rfl, kw.trans (k2.mono (fun q y => by unfold rmK; omega)), fun i hi => by rw [f2 i hi, fm i hi], fun z => by omega, fun _ => ⟨e28, ?_⟩⟩
            · split
              · exact hp6
              · split
                · exact hp6
                · exact hfe6
            · show wI y2 176 k = _
              rw [(hv k hk).1]
              by_cases z : cnt = 0
              · rw [if_pos (decide_eq_true z), if_pos z]
              · rw [if_neg (by rw [decide_eq_false z]; decide), if_neg z]
            · show wI y2 177 k = _
              rw [(hv k hk).2]
              by_cases z : cnt = 0
              · rw [if_pos (decide_eq_true z), if_pos z]
              · rw [if_neg (by rw [decide_eq_false z]; decide), if_neg z]
            · rw [e29]
              by_cases z : cnt = 0
              · rw [if_pos (decide_eq_true z), if_pos z]
              · rw [if_neg (by rw [decide_eq_false z]; decide), if_neg z]
                split <;> rfl
          have hE4 := hE3.kp k3
          rcases hn with ⟨er, hlt, hdn⟩ | ⟨er, heq⟩
          · rw [er]
            exact tp_on ⟨q, by omega, cnt + 1, _, by rw [decide_eq_true hlt], fun _ => hdn, hE4⟩
          · rw [er]
            exact tp_on ⟨q, by omega, cnt + 1, _, by rw [decide_eq_false (by omega)], fun z => by omega, hE4⟩
        | false =>
          refine tp_ifn (by decide) (tp_cl (y_nextRd (e := j) (B := B) hSy hY hY6 hP hP6 hB q hdj) (fun r y3 hn => ?_))
          obtain ⟨k3, hn⟩ := hn
          have hE3 : rdE S A b T Y B w y (j + 1) cnt fe := ⟨by omega, hfe6, hR.skip (by omega) (fun e h1 h2 => by rw [show e = j by omega]; exact hq), kw, fm, c0, c1⟩
          have hE4 := hE3.kp k3
          rcases hn with ⟨er, hlt, hdn⟩ | ⟨er, heq⟩
          · rw [er]
            exact tp_on ⟨q, by omega, cnt, fe, by rw [decide_eq_true hlt], fun _ => hdn, hE4⟩
          · rw [er]
            exact tp_on ⟨q, by omega, cnt, fe, by rw [decide_eq_false (by omega)], fun z => by omega, hE4⟩
      · have : j = B ^ Y := by omega
        rw [decide_eq_false q]
        rw [this] at hE
        exact tp_if rfl (tp_oout ⟨cnt, fe, rfl, hE⟩)
end YT
