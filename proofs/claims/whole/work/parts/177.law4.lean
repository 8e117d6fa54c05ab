/-! the law's walk: for every script -/
section LW4
variable {w0 w : Wd} {i Ln : Nat}
theorem zsw_k : ∀ k, k < 64 → zsw3 0 (nI k) = [200, 273, 298, 311, 324, 392, 460, 497, 546, 571, 608, 621, 646, 671, 696, 709, 734, 771, 784, 821, 834, 883, 932, 945, 970, 1007, 1032, 1045, 1070, 1107, 1156, 1169, 1182, 1207, 1232, 1257].getD k 1282 := by decide +kernel
theorem zsw_o : ∀ k, k < 64 → 36 ≤ k → zsw3 0 (nI k) = 1282 := by decide +kernel
theorem and63 (x : Int32) : ∃ m, m < 64 ∧ x &&& 63 = nI m := by
  have h : x.toBitVec.toNat &&& 63 < 2 ^ 6 := Nat.and_lt_two_pow _ (by decide)
  refine ⟨x.toBitVec.toNat &&& 63, h, ?_⟩
  apply Int32.toBitVec_inj.1
  apply BitVec.eq_of_toNat_eq
  show (x.toBitVec &&& (63 : Int32).toBitVec).toNat = (BitVec.ofNat 32 (x.toBitVec.toNat &&& 63)).toNat
  rw [BitVec.toNat_and, BitVec.toNat_ofNat, Nat.mod_eq_of_lt (by omega)]
  rfl
/-- the cases but those two that throw -/
theorem case_of (hT : TY w) (hB : SB w0 w) {X : Nat → Int32} (hX : SX6 w0 X i Ln) {k : Nat} (hk : k < 36) (h4 : ¬ k = 4) (h5 : ¬ k = 5) : CR w0 w i (zsw3 0 (nI k)) := by
  rw [zsw_k k (by omega)]
  match k, hk, h4, h5 with
  | 0, _, _, _ => exact r_feed hT hB hX
  | 1, _, _, _ => exact r_end hT hB hX
  | 2, _, _, _ => exact r_house hT hB hX
  | 3, _, _, _ => exact r_fault hT hB hX
  | 4, _, h, _ => exact absurd rfl h
  | 5, _, _, h => exact absurd rfl h
  | 6, _, _, _ => exact r_way hT hB hX
  | 7, _, _, _ => exact r_goes hT hB hX
  | 8, _, _, _ => exact r_days hT hB hX
  | 9, _, _, _ => exact r_beat hT hB hX
  | 10, _, _, _ => exact r_undo hT hB hX
  | 11, _, _, _ => exact r_hidden hT hB hX
  | 12, _, _, _ => exact r_missing hT hB hX
  | 13, _, _, _ => exact r_soles hT hB hX
  | 14, _, _, _ => exact r_deepest hT hB hX
  | 15, _, _, _ => exact r_who hT hB hX
  | 16, _, _, _ => exact r_age hT hB hX
  | 17, _, _, _ => exact r_readings hT hB hX
  | 18, _, _, _ => exact r_read hT hB hX
  | 19, _, _, _ => exact r_fewest hT hB hX
  | 20, _, _, _ => exact r_sign hT hB hX
  | 21, _, _, _ => exact r_steps hT hB hX
  | 22, _, _, _ => exact r_walk hT hB hX
  | 23, _, _, _ => exact r_walked hT hB hX
  | 24, _, _, _ => exact r_seen hT hB hX
  | 25, _, _, _ => exact r_lay hT hB hX
  | 26, _, _, _ => exact r_spot hT hB hX
  | 27, _, _, _ => exact r_ways hT hB hX
  | 28, _, _, _ => exact r_both hT hB hX
  | 29, _, _, _ => exact r_years hT hB hX
  | 30, _, _, _ => exact r_rarest hT hB hX
  | 31, _, _, _ => exact r_sentence hT hB hX
  | 32, _, _, _ => exact r_said hT hB hX
  | 33, _, _, _ => exact r_image hT hB hX
  | 34, _, _, _ => exact r_restore hT hB hX
  | 35, _, _, _ => exact r_count hT hB hX
  | n + 36, h, _, _ => exact absurd h (by omega)
theorem ty_sL (hT : TY w) (k j : Nat) (v : Int64) : TY (sL w k j v) := hT.of rfl rfl
theorem out_L (v : Int64) : wL (sL w 191 0 v) 191 0 = v := by
  show (if (191 : Nat) = 191 ∧ (0 : Nat) = 0 then v else wL w 191 0) = v
  exact if_pos ⟨rfl, rfl⟩
theorem sb_out (h : SB w0 w) (v : Int64) : SB w0 (sL w 191 0 v) :=
  h.quiet (Kp.refl.sL (Or.inr (Or.inr (Or.inr (Or.inr rfl)))) 0 v) (fun _ _ => rfl)
/-- what the walk of the machine must give: K t a, the claim at a, after t throws -/
def LWK (w0 : Wd) (K : Nat → Cfg → Prop) : Prop :=
  (∀ t a b, t ≤ 512 → PT (Ev 60) M0 a b → wn a.2.2.2 = 192 → wn b.2.2.2 = 192 → K t b → K t a) ∧
  (∀ t i w, t ≤ 512 → wn w = 192 → K t (1289, LV i, [.int 1], w)) ∧
  (∀ t i w p q v, t ≤ 512 → TY w → GZ w0 w → sh_180 0 p q w = some (v, w) → K t (341, LV i, [.int 0], sL w 191 0 v.toInt64) → K t (338, LV i, [.ref 191, .int q, .int p, .ref 0], w)) ∧
  (∀ t i w p q S, t < 512 → TY w → GZ w0 w → XS S w → WF S → okP S p q = false → K (t + 1) (341, LV i, [.int 1], w) → K t (338, LV i, [.ref 191, .int q, .int p, .ref 0], w)) ∧
  (∀ t i w p q v, t ≤ 512 → TY w → GZ w0 w → sh_181 0 p q w = some (v, w) → K t (409, LV i, [.int 0], sL w 191 0 v.toInt64) → K t (406, LV i, [.ref 191, .int q, .int p, .ref 0], w)) ∧
  (∀ t i w p q S, t < 512 → TY w → GZ w0 w → XS S w → WF S → okT S p q = false → K (t + 1) (409, LV i, [.int 1], w) → K t (406, LV i, [.ref 191, .int q, .int p, .ref 0], w))
theorem th_run {k : Int32} (hT : TY w) (e : wI w 166 0 = k) : Ev 60 184 [.ref 166] w (some (.int k)) w := by
  obtain ⟨-, h⟩ := ev_184 (d := 60) (by decide) hT i166 (wI w 166 0) w rfl
  rw [e] at h
  exact h
theorem law_loop {K : Nat → Cfg → Prop} (HK : LWK w0 K) (hL : wI w0 1003 0 = nI Ln) (hL2 : Ln ≤ 3072) : ∀ (m i t : Nat) (w : Wd), i + m = 512 → t ≤ i → TY w → SB w0 w → K t (23, LV i, [], w) := by
  obtain ⟨H1, H2, HA, HB, HC, HD⟩ := HK
  intro m
  induction m with
  | zero =>
    intro i t w hm ht hT hB
    have r1 := head_run (E := Ev 60) (w := w) (i := i) (by omega) (by rw [hB.1.2.1]; exact hL) hL2
    rw [decide_eq_true (by omega)] at r1
    exact H1 t _ _ (by omega) (r1.trans tail_run.2) hT.1 hT.1 (H2 t i w (by omega) hT.1)
  | succ m ih =>
    intro i t w hm ht hT hB
    have r1 := head_run (E := Ev 60) (w := w) (i := i) (by omega) (by rw [hB.1.2.1]; exact hL) hL2
    by_cases hin : Ln < 6 * i + 6
    · rw [decide_eq_true hin] at r1
      exact H1 t _ _ (by omega) (r1.trans tail_run.2) hT.1 hT.1 (H2 t i w (by omega) hT.1)
    · rw [decide_eq_false hin] at r1
      have hX : SX6 w0 (fun j => wI w0 1000 (6 * i + j)) i Ln := ⟨hL, hL2, by omega, fun j _ => rfl⟩
      have hXw : SX6 w (fun j => wI w0 1000 (6 * i + j)) i Ln := hX.of hB.1.1 hB.1.2.1
      obtain ⟨X, eX⟩ : ∃ X : Nat → Int32, X = fun j => wI w0 1000 (6 * i + j) := ⟨_, rfl⟩
      rw [← eX] at hX hXw
      obtain ⟨k, hk, ek⟩ := and63 (X 0)
      have r2 := r1.trans (dis_run hXw)
      rw [ek] at r2
      have on : ∀ t' w', t' ≤ i + 1 → TY w' → SB w0 w' → K t' (1282, LV i, [], w') := fun t' w' h1 h2 h3 => H1 t' _ _ (by omega) tail_run.1 h2.1 h2.1 (ih (i + 1) t' w' (by omega) h1 h2 h3)
      by_cases k36 : k < 36
      · by_cases k4 : k = 4
        · subst k4
          obtain ⟨okA, -, okB, -⟩ : afterOk 341 210 = true ∧ afterOk 409 215 = true ∧ beforeOk 324 = true ∧ beforeOk 392 = true := by
            have h := after_ok
            rw [Bool.and_eq_true, Bool.and_eq_true, Bool.and_eq_true] at h
            exact h
          refine H1 t _ _ (by omega) (r2.trans (before_run hXw okB)) hT.1 hT.1 ?_
          obtain ⟨S, hS, hF, h1, h0⟩ := c_person w hB (X 1) (X 2)
          cases ho : okP S (X 1) (X 2) with
          | true =>
            obtain ⟨v, ex, ey⟩ := h1 ho
            refine HA t i w _ _ v (by omega) hT hB.1 ex ?_
            have hT1 := ty_sL hT 191 0 v.toInt64
            have hB1 := sb_out hB v.toInt64
            have hX1 : SX6 (sL w 191 0 v.toInt64) X i Ln := hXw.of rfl rfl
            have ey1 := ey (sL w 191 0 v.toInt64) rfl
            obtain ⟨hT2, v2⟩ := ev_210 (d := 60) (by decide) hT1 i166 _ _ ey1
            refine H1 t _ _ (by omega) (after_run (k := 0) hX1 okA (Or.inl ⟨rfl, ?_⟩) hT2.1 v2 (th_run hT2 wI_same)) hT1.1 hT2.1 (on t _ (by omega) hT2 (hB1.z 0))
            exact out_L v.toInt64
          | false =>
            refine HB t i w _ _ S (by omega) hT hB.1 hS hF ho ?_
            obtain ⟨v, ey1⟩ := h0 ho w rfl
            obtain ⟨hT2, v2⟩ := ev_210 (d := 60) (by decide) hT i166 _ _ ey1
            exact H1 (t + 1) _ _ (by omega) (after_run (k := 1) hXw okA (Or.inr rfl) hT2.1 v2 (th_run hT2 wI_same)) hT.1 hT2.1 (on (t + 1) _ (by omega) hT2 (hB.z 1))
        · by_cases k5 : k = 5
          · subst k5
            obtain ⟨-, okA, -, okB⟩ : afterOk 341 210 = true ∧ afterOk 409 215 = true ∧ beforeOk 324 = true ∧ beforeOk 392 = true := by
              have h := after_ok
              rw [Bool.and_eq_true, Bool.and_eq_true, Bool.and_eq_true] at h
              exact h
            refine H1 t _ _ (by omega) (r2.trans (before_run hXw okB)) hT.1 hT.1 ?_
            obtain ⟨S, hS, hF, h1, h0⟩ := c_tuft w hB (X 1) (X 2)
            cases ho : okT S (X 1) (X 2) with
            | true =>
              obtain ⟨v, ex, ey⟩ := h1 ho
              refine HC t i w _ _ v (by omega) hT hB.1 ex ?_
              have hT1 := ty_sL hT 191 0 v.toInt64
              have hB1 := sb_out hB v.toInt64
              have hX1 : SX6 (sL w 191 0 v.toInt64) X i Ln := hXw.of rfl rfl
              have ey1 := ey (sL w 191 0 v.toInt64) rfl
              obtain ⟨hT2, v2⟩ := ev_215 (d := 60) (by decide) hT1 i166 _ _ ey1
              refine H1 t _ _ (by omega) (after_run (k := 0) hX1 okA (Or.inl ⟨rfl, ?_⟩) hT2.1 v2 (th_run hT2 wI_same)) hT1.1 hT2.1 (on t _ (by omega) hT2 (hB1.z 0))
              exact out_L v.toInt64
            | false =>
              refine HD t i w _ _ S (by omega) hT hB.1 hS hF ho ?_
              obtain ⟨v, ey1⟩ := h0 ho w rfl
              obtain ⟨hT2, v2⟩ := ev_215 (d := 60) (by decide) hT i166 _ _ ey1
              exact H1 (t + 1) _ _ (by omega) (after_run (k := 1) hXw okA (Or.inr rfl) hT2.1 v2 (th_run hT2 wI_same)) hT.1 hT2.1 (on (t + 1) _ (by omega) hT2 (hB.z 1))
          · obtain ⟨w2, hT2, hB2, r3⟩ := case_of hT hB hX k36 k4 k5
            exact H1 t _ _ (by omega) (r2.trans r3) hT.1 hT2.1 (on t w2 (by omega) hT2 hB2)
      · have e : zsw3 0 (nI k) = 1282 := zsw_o k hk (by omega)
        rw [e] at r2
        exact H1 t _ _ (by omega) r2 hT.1 hT.1 (on t w (by omega) hT hB)
end LW4
