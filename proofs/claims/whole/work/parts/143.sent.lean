/-! a SENTENCE: what is at hand; the reference's loop and its stack -/
def wdB (t : Nat × List Nat) (j : Nat) : Bool := decide (t.1 = 1) && decide (t.2 = wdL j)
def lfB (t : Nat × List Nat) : Int32 := if wdB t 13 = true then 0 else if wdB t 14 = true then 1 else if wdB t 15 = true then 2 else if wdB t 16 = true then 3 else if wdB t 17 = true then 4 else if wdB t 18 = true then 5 else if wdB t 19 = true then 6 else -1
theorem wdB_iff {t : Nat × List Nat} {j : Nat} : wdB t j = true ↔ wdOk t j := by
  unfold wdB wdOk
  rw [Bool.and_eq_true, decide_eq_true_eq, decide_eq_true_eq]
theorem wdB_inj {t : Nat × List Nat} {j k : Nat} (hj : j < 20) (hk : k < 20) (h : wdB t j = true) : wdB t k = decide (j = k) := by
  by_cases e : j = k
  · subst e; rw [h]; exact (decide_eq_true rfl).symm
  · rw [decide_eq_false e]
    cases q : wdB t k with
    | false => rfl
    | true => exact absurd (wdL_inj j hj k hk ((wdB_iff.mp h).2.symm.trans (wdB_iff.mp q).2)) e
theorem wdB_no {t : Nat × List Nat} {j : Nat} (h : ¬ t.1 = 1) : wdB t j = false := by
  unfold wdB
  rw [decide_eq_false h, Bool.false_and]
theorem sgB_no {t : Nat × List Nat} {c : Nat} (h : ¬ t.1 = 3) : sgOk t c = false := by
  unfold sgOk
  rw [decide_eq_false h, Bool.false_and]
theorem lf_num : ∀ j, j < 20 → (if decide (j = 13) = true then (0 : Int32) else if decide (j = 14) = true then 1 else if decide (j = 15) = true then 2 else if decide (j = 16) = true then 3 else if decide (j = 17) = true then 4 else if decide (j = 18) = true then 5 else if decide (j = 19) = true then 6 else -1) = if j < 13 then -1 else nI (j - 13) := by decide
theorem zm_num : ∀ j, j < 20 → zwm j = if j < 14 then -1 else nI (j - 14) := by decide
theorem lfB_j {t : Nat × List Nat} {j : Nat} (hj : j < 20) (h : wdB t j = true) : lfB t = if j < 13 then -1 else nI (j - 13) := by
  unfold lfB
  rw [wdB_inj hj (by decide) h, wdB_inj hj (by decide) h, wdB_inj hj (by decide) h, wdB_inj hj (by decide) h, wdB_inj hj (by decide) h, wdB_inj hj (by decide) h, wdB_inj hj (by decide) h]
  exact lf_num j hj
theorem lfB_no {t : Nat × List Nat} (h : ∀ j, j < 20 → wdB t j = false) : lfB t = -1 := by
  unfold lfB
  rw [h _ (by decide), h _ (by decide), h _ (by decide), h _ (by decide), h _ (by decide), h _ (by decide), h _ (by decide)]
  rfl
theorem w_not : (7237492 : Int64) = lN (en8 (wdL 12)) := by decide
theorem w_and : (6385252 : Int64) = lN (en8 (wdL 11)) := by decide
theorem w_or : (28530 : Int64) = lN (en8 (wdL 10)) := by decide
theorem w_l13 : (1953656676 : Int64) = lN (en8 (wdL 13)) := by decide
theorem w_l14 : (131277443786868 : Int64) = lN (en8 (wdL 14)) := by decide
theorem w_l15 : (1936682085 : Int64) = lN (en8 (wdL 15)) := by decide
theorem w_l16 : (1885430629 : Int64) = lN (en8 (wdL 16)) := by decide
theorem w_l17 : (123636697429107 : Int64) = lN (en8 (wdL 17)) := by decide
theorem w_l18 : (500185855091 : Int64) = lN (en8 (wdL 18)) := by decide
theorem w_l19 : (482854658917 : Int64) = lN (en8 (wdL 19)) := by decide
section SW
variable {n lim m i : Nat} {b : Nat → Nat} {w w' : Wd}
theorem wd_lt {j : Nat} (h : wdB (tkA n b m i) j = true) : i < m := by
  have := (wdB_iff.mp h).1
  unfold tkA at this
  by_cases q : i < m
  · exact q
  · rw [if_neg q] at this; cases this
theorem tk_lt (h : ¬ (tkA n b m i).1 = 0) : i < m := by
  unfold tkA at h
  by_cases q : i < m
  · exact q
  · rw [if_neg q] at h; exact absurd rfl h
theorem y_wB (h : YS n b lim m i w) (hT : TM n b (min n lim) m) {k : Nat} {c : Int64} (hk : k < 20) (hc : c = lN (en8 (wdL k))) : sh_196 166 c w = some (wdB (tkA n b m i) k, w) := by
  subst hc
  obtain ⟨v, w', e, ew, hv⟩ := y_isWord h.1 hT hk
  rw [e, ew]
  have : v = wdB (tkA n b m i) k := Bool.eq_iff_iff.mpr (hv.trans wdB_iff.symm)
  rw [this]
theorem y_leafW (h : YS n b lim m i w) (hT : TM n b (min n lim) m) : sh_278 166 w = some (lfB (tkA n b m i), w) := by
  unfold sh_278 lfB
  rw [cl_e (y_wB h hT (k := 13) (by decide) w_l13)]
  by_cases h1 : wdB (tkA n b m i) 13 = true
  · rw [if_pos h1, if_pos h1]
  rw [if_neg h1, if_neg h1, cl_e (y_wB h hT (k := 14) (by decide) w_l14)]
  by_cases h1 : wdB (tkA n b m i) 14 = true
  · rw [if_pos h1, if_pos h1]
  rw [if_neg h1, if_neg h1, cl_e (y_wB h hT (k := 15) (by decide) w_l15)]
  by_cases h1 : wdB (tkA n b m i) 15 = true
  · rw [if_pos h1, if_pos h1]
  rw [if_neg h1, if_neg h1, cl_e (y_wB h hT (k := 16) (by decide) w_l16)]
  by_cases h1 : wdB (tkA n b m i) 16 = true
  · rw [if_pos h1, if_pos h1]
  rw [if_neg h1, if_neg h1, cl_e (y_wB h hT (k := 17) (by decide) w_l17)]
  by_cases h1 : wdB (tkA n b m i) 17 = true
  · rw [if_pos h1, if_pos h1]
  rw [if_neg h1, if_neg h1, cl_e (y_wB h hT (k := 18) (by decide) w_l18)]
  by_cases h1 : wdB (tkA n b m i) 18 = true
  · rw [if_pos h1, if_pos h1]
  rw [if_neg h1, if_neg h1, cl_e (y_wB h hT (k := 19) (by decide) w_l19)]
  by_cases h1 : wdB (tkA n b m i) 19 = true
  · rw [if_pos h1, if_pos h1]
  rw [if_neg h1, if_neg h1]
theorem x_wB (h : XP n b lim m i w) {j : Nat} (hj : j < 20) (hw : wdB (tkA n b m i) j = true) : sh_33 1 w = some (some (1010 + j), w) := x_word h hj (wdB_iff.mp hw)
theorem x_wn (h : XP n b lim m i w) (hn : ∀ j, j < 20 → wdB (tkA n b m i) j = false) : sh_33 1 w = some (none, w) := by
  obtain ⟨v, w', e, ew, hv⟩ := x_wordHere h
  rw [e, ew]
  rcases hv with ⟨j, hj, -, hw⟩ | ⟨ev, -⟩
  · have := hn j hj
    rw [wdB_iff.mpr hw] at this
    cases this
  · rw [ev]
theorem x_ms (h : XP n b lim m i w) {j : Nat} (hj : j < 20) (hw : wdB (tkA n b m i) j = true) : sh_163 1 w = some (if j < 14 then -1 else nI (j - 14), w) := by
  unfold sh_163
  rw [cl_e (x_wB h hj hw)]
  show gd (decide (1010 ≤ 1010 + j ∧ 1010 + j < 1030)) (some (zwm (1010 + j - 1010), w)) = _
  rw [gd_t (decide_eq_true ⟨by omega, by omega⟩), show 1010 + j - 1010 = j by omega, zm_num j hj]
theorem x_msn (h : XP n b lim m i w) (hn : ∀ j, j < 20 → wdB (tkA n b m i) j = false) : sh_163 1 w = some (-1, w) := by
  unfold sh_163
  rw [cl_e (x_wn h hn)]
  rfl
theorem YS.g (h : YS n b lim m i w) (hf : ∀ j, j < 46 → wI w' 166 j = wI w 166 j) (hL : wL w' = wL w) (h7 : wI w' 167 = wI w 167) : YS n b lim m i w' := by
  unfold YS MK MB WRD at *
  rw [hf 12 (by decide), hf 4 (by decide), hf 11 (by decide), hf 14 (by decide), hf 3 (by decide), hf 5 (by decide), hf 15 (by decide), hL, h7]
  exact h
end SW
/-! turns of a loop -/
theorem it_mono {S α : Type} {body : S → Wd → Option ((S ⊕ α) × Wd)} : ∀ (n k : Nat) (s : S) (w : Wd) (r : α × Wd), itM body n s w = some r → itM body (n + k) s w = some r := by
  intro n
  induction n with
  | zero => intro k s w r h; cases h
  | succ n ih =>
    intro k s w r h
    rw [show n + 1 + k = (n + k) + 1 by omega]
    rw [itM] at h ⊢
    cases hb : body s w with
    | none => rw [hb] at h; cases h
    | some q =>
      obtain ⟨o, w1⟩ := q
      rw [hb] at h
      cases o with
      | inl s' => exact ih k s' w1 r h
      | inr r' => exact h
theorem FU_split {k : Nat} (hk : k < 1000000000000) : ∃ N, FU = k + N := ⟨FU - k, by have := FU_gt (n := k) (by omega); omega⟩
theorem it_pop {S α : Type} {body : S → Wd → Option ((S ⊕ α) × Wd)} {s s' : S} {w w' : Wd} {k : Nat} {r : α × Wd} (h1 : body s w = some (.inl s', w')) (hk : k < 100000000000) (h2 : itM body k s' w' = some r) : itM body FU s w = itM body FU s' w' := by
  obtain ⟨N, hN⟩ := FU_split (k := k + 1) (by omega)
  have e1 : itM body FU s' w' = some r := by
    rw [hN, show k + 1 + N = k + (1 + N) by omega]
    exact it_mono k _ s' w' r h2
  have e2 : itM body (k + N) s' w' = some r := it_mono k _ s' w' r h2
  rw [e1, hN, show k + 1 + N = (k + N) + 1 by omega, itM, h1]
  exact e2
theorem it_out {S α : Type} {body : S → Wd → Option ((S ⊕ α) × Wd)} {s : S} {w w' : Wd} {r : α} (h1 : body s w = some (.inr r, w')) : itM body FU s w = some (r, w') := by
  obtain ⟨N, hN⟩ := FU_split (k := 1) (by omega)
  rw [hN, Nat.add_comm, itM, h1]
def bdS (v1_12 : Int32) (w14 : Wd) : Option ((Int32 ⊕ Int32) × Wd) := if v1_12 = 0 then (gd (ib 10084 10265) (stI w14 (166 + 2) (ix 10084) (wI w14 166 46) (fun w16 => itM (fun (v2_17 : Int32) (w19 : Wd) => if v2_17 < 3 * (wI w19 166 46) then (gd (ib v2_17 135) (gd (ib (10085 + v2_17) 10265) (stI w19 (166 + 2) (ix (10085 + v2_17)) (wI w19 (166 + 4) (ix v2_17)) (fun w21 => lt (v2_17 + 1 : Int32) (fun v2_22 => some (.inl v2_22, w21)))))) else (some (.inr (.inr (wI w19 166 47)), w19))) FU 0 w16))) else (jn (fun (s42 : Unit) (w25 : Wd) => if wI w25 166 50 = 0 then (cl (sh_277 166 w25) (fun r28 w27 => if r28 = true then (some (.inl v1_12, w27)) else (some (.inr ((-1) - (wI w27 166 16)), w27)))) else (cl (sh_276 166 w25) (fun r31 w30 => if r31 = true then (some (.inl v1_12, w30)) else (some (.inr ((-1) - (wI w30 166 16)), w30))))) (fun j24 => if wI w14 166 50 = 0 then (j24 () w14) else (if wI w14 166 11 = 0 then (cl (sh_273 166 w14) (fun _ w35 => cl (sh_275 166 12 w35) (fun _ w37 => if 0 < wI w37 166 48 then (cl (sh_197 166 1 w37) (fun r41 w40 => some (.inr ((-1) - (wI w40 166 16)), w40))) else (some (.inl 0, w37))))) else (j24 () w14))))
def bdN (_ : Unit) (w2 : Wd) : Option ((Unit ⊕ Unit) × Wd) := if 0 < wI w2 166 48 then (gd (ib ((wI w2 166 48) - 1) 45) (if wI w2 (166 + 20) (ix ((wI w2 166 48) - 1)) = 10 then (stI w2 166 48 ((wI w2 166 48) - 1) (fun w5 => stI w5 166 49 ((wI w5 166 49) - 1) (fun w6 => cl (sh_274 166 10 0 0 w6) (fun _ w7 => some (.inl (), w7))))) else (some (.inr (()), w2)))) else (some (.inr (()), w2))
def bdJ (p1 : Int32) (_ : Unit) (w2 : Wd) : Option ((Unit ⊕ Unit) × Wd) := if 0 < wI w2 166 48 then (gd (ib ((wI w2 166 48) - 1) 45) (jn (fun (s12 : Unit) (w5 : Wd) => stI w5 166 48 ((wI w5 166 48) - 1) (fun w6 => gd (ib (wI w6 166 48) 45) (cl (sh_274 166 (wI w6 (166 + 20) (ix (wI w6 166 48))) 0 0 w6) (fun _ w7 => some (.inl (), w7))))) (fun j4 => if wI w2 (166 + 20) (ix ((wI w2 166 48) - 1)) = 11 then (j4 () w2) else (gd (ib ((wI w2 166 48) - 1) 45) (if wI w2 (166 + 20) (ix ((wI w2 166 48) - 1)) = 12 then (if p1 = 12 then (j4 () w2) else (some (.inr (()), w2))) else (some (.inr (()), w2))))))) else (some (.inr (()), w2))
def oneY (r2 r4 : Bool) (r6 : Int32) (w8 : Wd) : Option (Bool × Wd) := if wI w8 166 47 = 20 then (cl (sh_197 166 4 w8) (fun r11 w10 => some (r11, w10))) else (if 8 < wI w8 166 49 then (cl (sh_197 166 4 w8) (fun r14 w13 => some (r14, w13))) else (stI w8 166 47 ((wI w8 166 47) + 1) (fun w15 => cl (sh_191 166 w15) (fun _ w16 => jn (fun (s63 : Unit) (w19 : Wd) => lt (if r2 = true then 10 else 13 : Int32) (fun z20 => gd (ib (wI w19 166 48) 45) (stI w19 (166 + 20) (ix (wI w19 166 48)) z20 (fun w21 => stI w21 166 48 ((wI w21 166 48) + 1) (fun w22 => stI w22 166 49 ((wI w22 166 49) + 1) (fun w23 => some (true, w23))))))) (fun j18 => if r2 = true then (j18 () w16) else (if r4 = true then (j18 () w16) else (stI w16 166 50 1 (fun w28 => if r6 = 0 then (cl (sh_201 166 w28) (fun r31 w30 => if r31 = true then (gd (ib 3 10265) (cl (sh_202 166 6 (wI w30 (166 + 2) (ix 3)) w30) (fun r34 w33 => if r34 < 0 then (cl (sh_197 166 3 w33) (fun r37 w36 => some (r37, w36))) else (cl (sh_274 166 r6 0 r34 w33) (fun _ w38 => cl (sh_191 166 w38) (fun _ w40 => some (true, w40))))))) else (cl (sh_197 166 1 w30) (fun r43 w42 => some (r43, w42))))) else (if wI w28 166 11 = 3 then (if 60 ≤ wI w28 166 14 then (if 62 < wI w28 166 14 then (cl (sh_197 166 1 w28) (fun r48 w47 => some (r48, w47))) else (lt (wI w28 166 14 : Int32) (fun v4_49 => cl (sh_191 166 w28) (fun _ w50 => if wI w50 166 11 = 2 then (cl (sh_274 166 r6 v4_49 (wI w50 166 14) w50) (fun _ w53 => cl (sh_191 166 w53) (fun _ w55 => some (true, w55)))) else (cl (sh_197 166 1 w50) (fun r58 w57 => some (r58, w57))))))) else (cl (sh_197 166 1 w28) (fun r60 w59 => some (r60, w59)))) else (cl (sh_197 166 1 w28) (fun r62 w61 => some (r62, w61))))))))))))
def oneZ (r2 r4 : Bool) (r6 : Int32) (w16 : Wd) : Option (Bool × Wd) := jn (fun (s63 : Unit) (w19 : Wd) => lt (if r2 = true then 10 else 13 : Int32) (fun z20 => gd (ib (wI w19 166 48) 45) (stI w19 (166 + 20) (ix (wI w19 166 48)) z20 (fun w21 => stI w21 166 48 ((wI w21 166 48) + 1) (fun w22 => stI w22 166 49 ((wI w22 166 49) + 1) (fun w23 => some (true, w23))))))) (fun j18 => if r2 = true then (j18 () w16) else (if r4 = true then (j18 () w16) else (stI w16 166 50 1 (fun w28 => if r6 = 0 then (cl (sh_201 166 w28) (fun r31 w30 => if r31 = true then (gd (ib 3 10265) (cl (sh_202 166 6 (wI w30 (166 + 2) (ix 3)) w30) (fun r34 w33 => if r34 < 0 then (cl (sh_197 166 3 w33) (fun r37 w36 => some (r37, w36))) else (cl (sh_274 166 r6 0 r34 w33) (fun _ w38 => cl (sh_191 166 w38) (fun _ w40 => some (true, w40))))))) else (cl (sh_197 166 1 w30) (fun r43 w42 => some (r43, w42))))) else (if wI w28 166 11 = 3 then (if 60 ≤ wI w28 166 14 then (if 62 < wI w28 166 14 then (cl (sh_197 166 1 w28) (fun r48 w47 => some (r48, w47))) else (lt (wI w28 166 14 : Int32) (fun v4_49 => cl (sh_191 166 w28) (fun _ w50 => if wI w50 166 11 = 2 then (cl (sh_274 166 r6 v4_49 (wI w50 166 14) w50) (fun _ w53 => cl (sh_191 166 w53) (fun _ w55 => some (true, w55)))) else (cl (sh_197 166 1 w50) (fun r58 w57 => some (r58, w57))))))) else (cl (sh_197 166 1 w28) (fun r60 w59 => some (r60, w59)))) else (cl (sh_197 166 1 w28) (fun r62 w61 => some (r62, w61))))))))
/-- some turns lead from a world to another one; turns lead to a FAULT's end -/
def RunTo (k : Nat) (w v : Wd) : Prop := ∀ N, itM bdS (N + k) 1 w = itM bdS N 1 v
def RunF (k : Nat) (w v : Wd) : Prop := ∀ N, itM bdS (N + k) 1 w = some ((-1) - wI v 166 16, v)
section RN
variable {k k' : Nat} {w v u w' : Wd} {n lim m i : Nat} {b : Nat → Nat}
theorem RunTo.refl : RunTo 0 w w := fun _ => rfl
theorem RunTo.trans (h : RunTo k w v) (h2 : RunTo k' v u) : RunTo (k + k') w u := fun N => by
  rw [show N + (k + k') = (N + k') + k by omega, h, h2]
theorem RunTo.f (h : RunTo k w v) (h2 : RunF k' v u) : RunF (k + k') w u := fun N => by
  rw [show N + (k + k') = (N + k') + k by omega, h, h2]
theorem run1 (h : bdS 1 w = some (.inl 1, v)) : RunTo 1 w v := fun N => by rw [itM, h]
theorem runf (h : bdS 1 w = some (.inr ((-1) - wI v 166 16), v)) : RunF 1 w v := fun N => by rw [itM, h]
theorem run0 (h : bdS 1 w = bdS 1 v) : RunTo 0 w v := fun N => by
  cases N with
  | zero => rfl
  | succ N => show itM bdS (N + 1) 1 w = itM bdS (N + 1) 1 v; rw [itM, itM, h]
theorem bd_op (h : wI w 166 50 = 0) : bdS 1 w = cl (sh_277 166 w) (fun r w' => if r = true then some (.inl 1, w') else some (.inr ((-1) - wI w' 166 16), w')) := by
  unfold bdS
  rw [if_neg (by decide), jn_s, if_pos h]
  exact if_pos h
theorem bd_wh1 (h : wI w 166 50 = 1) (h2 : ¬ wI w 166 11 = 0) : bdS 1 w = cl (sh_276 166 w) (fun r w' => if r = true then some (.inl 1, w') else some (.inr ((-1) - wI w' 166 16), w')) := by
  unfold bdS
  rw [if_neg (by decide), jn_s, if_neg (by rw [h]; decide), if_neg h2]
  exact if_neg (by rw [h]; decide)
theorem bd_wh0 (h : wI w 166 50 = 1) (h2 : wI w 166 11 = 0) : bdS 1 w = cl (sh_273 166 w) (fun _ w35 => cl (sh_275 166 12 w35) (fun _ w37 => if 0 < wI w37 166 48 then (cl (sh_197 166 1 w37) (fun _ w40 => some (.inr ((-1) - wI w40 166 16), w40))) else (some (.inl 0, w37)))) := by
  unfold bdS
  rw [if_neg (by decide), jn_s, if_neg (by rw [h]; decide), if_pos h2]
theorem y_277 (h : YS n b lim m i w) (hT : TM n b (min n lim) m) : sh_277 166 w = if wdB (tkA n b m i) 12 = true then oneY (wdB (tkA n b m i) 12) (sgOk (tkA n b m i) 40) (lfB (tkA n b m i)) w else if sgOk (tkA n b m i) 40 = true then oneY (wdB (tkA n b m i) 12) (sgOk (tkA n b m i) 40) (lfB (tkA n b m i)) w else if lfB (tkA n b m i) < 0 then cl (sh_197 166 1 w) (fun r w' => some (r, w')) else oneY (wdB (tkA n b m i) 12) (sgOk (tkA n b m i) 40) (lfB (tkA n b m i)) w := by
  unfold sh_277
  rw [cl_e (y_wB h hT (k := 12) (by decide) w_not), cl_e (show sh_205 166 40 w = some (sgOk (tkA n b m i) 40, w) from y_signHere h.1 (c := 40) (by decide)), cl_e (y_leafW h hT)]
  rfl
theorem e_273 : sh_273 166 w = itM bdN FU () w := rfl
theorem e_275 (p : Int32) : sh_275 166 p w = itM (bdJ p) FU () w := rfl
/-- equal turns -/
theorem bd_A (h1 : wI w 166 50 = 1) (h2 : wI v 166 50 = 1) (h3 : wI v 166 11 = wI w 166 11) (h : sh_273 166 w = sh_273 166 v) : bdS 1 w = bdS 1 v := by
  by_cases q : wI w 166 11 = 0
  · rw [bd_wh0 h1 q, bd_wh0 h2 (h3.trans q), h]
  · rw [bd_wh1 h1 q, bd_wh1 h2 (by rw [h3]; exact q)]
    unfold sh_276
    rw [h]
theorem y_276 (h : YS n b lim m i w) (hT : TM n b (min n lim) m) (h0 : sh_273 166 w = some ((), w)) : sh_276 166 w = if wdB (tkA n b m i) 11 = true ∨ wdB (tkA n b m i) 10 = true then cl (sh_275 166 (if wdB (tkA n b m i) 11 = true then 11 else 12) w) (fun _ w10 => cl (sh_196 166 6385252 w10) (fun r13 w12 => lt (if r13 = true then 11 else 12 : Int32) (fun z14 => gd (ib (wI w10 166 48) 45) (stI w12 (166 + 20) (ix (wI w10 166 48)) z14 (fun w15 => stI w15 166 48 ((wI w15 166 48) + 1) (fun w16 => stI w16 166 50 0 (fun w17 => cl (sh_191 166 w17) (fun _ w18 => some (true, w18)))))))) ) else cl (sh_275 166 12 w) (fun _ w28 => cl (sh_205 166 41 w28) (fun r31 w30 => if r31 = true then (if wI w30 166 48 = 0 then (cl (sh_197 166 1 w30) (fun r35 w34 => some (r35, w34))) else (stI w30 166 48 ((wI w30 166 48) - 1) (fun w36 => stI w36 166 49 ((wI w36 166 49) - 1) (fun w37 => cl (sh_191 166 w37) (fun _ w38 => some (true, w38)))))) else (cl (sh_197 166 1 w30) (fun r41 w40 => some (r41, w40))))) := by
  have ea := y_wB h hT (k := 11) (by decide) w_and
  have eo := y_wB h hT (k := 10) (by decide) w_or
  unfold sh_276
  rw [cl_e h0, cl_e ea, jn_s]
  by_cases qa : wdB (tkA n b m i) 11 = true
  · rw [if_pos (Or.inl qa), if_pos qa]
    exact cl_e ea
  · rw [if_neg qa, cl_e eo]
    by_cases qo : wdB (tkA n b m i) 10 = true
    · rw [if_pos (Or.inr qo), if_pos qo]
      exact cl_e ea
    · rw [if_neg qo, if_neg (fun z => Or.elim z qa qo)]
theorem bd_B (hw : YS n b lim m i w) (hv : YS n b lim m i v) (hT : TM n b (min n lim) m) (h1 : wI w 166 50 = 1) (h2 : wI v 166 50 = 1) (h3 : wI v 166 11 = wI w 166 11) (n1 : sh_273 166 w = some ((), w)) (n2 : sh_273 166 v = some ((), v)) (ha : wdB (tkA n b m i) 11 = true → sh_275 166 11 w = sh_275 166 11 v) (hb : wdB (tkA n b m i) 11 = false → sh_275 166 12 w = sh_275 166 12 v) : bdS 1 w = bdS 1 v := by
  by_cases q : wI w 166 11 = 0
  · have qa : wdB (tkA n b m i) 11 = false := by
      cases qa : wdB (tkA n b m i) 11 with
      | false => rfl
      | true =>
        have := (y_word17 hw.1 (wdB_iff.mp qa).1).1
        rw [q] at this
        cases this
    rw [bd_wh0 h1 q, bd_wh0 h2 (h3.trans q), cl_e n1, cl_e n2, hb qa]
  · rw [bd_wh1 h1 q, bd_wh1 h2 (by rw [h3]; exact q), y_276 hw hT n1, y_276 hv hT n2]
    cases qa : wdB (tkA n b m i) 11 with
    | true => rw [if_pos (Or.inl rfl), if_pos (Or.inl rfl), if_pos rfl, ha qa]
    | false => rw [if_neg (show ¬ false = true by decide), hb qa]
end RN
