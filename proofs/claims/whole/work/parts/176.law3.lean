/-! the law's walk: the loop over the script -/
def afterOk (p ny : Nat) : Bool := opIs p (5, 5, 0, 0) (p + 2) && (opIs (p + 2) (4, 2, 0, 0) (p + 3) && (argsOk 2 (p + 3) 1 && (opIs (p + 15) (39, ny, 0, 0) (p + 18) && (opIs (p + 18) (5, 6, 0, 0) (p + 20) && (opIs (p + 20) (4, 2, 0, 0) (p + 21) && (opIs (p + 21) (39, 184, 0, 0) (p + 24) && (opIs (p + 24) (2, 5, 0, 0) (p + 26) && (opIs (p + 26) (19, 0, p + 31, 0) (p + 29) && (opIs (p + 31) (2, 5, 0, 0) (p + 33) && (opIs (p + 33) (18, 1, p + 48, 0) (p + 36) && (opIs (p + 36) (4, 3, 0, 0) (p + 37) && (opIs (p + 37) (0, 0, 0, 0) (p + 38) && (opIs (p + 38) (28, 0, 0, 0) (p + 39) && (opIs (p + 39) (2, 6, 0, 0) (p + 41) && (opIs (p + 41) (12, 0, 0, 0) (p + 42) && (opIs (p + 42) (11, 0, 0, 0) (p + 43) && (opIs (p + 43) (18, 0, p + 48, 0) (p + 46) && opIs (p + 48) (22, 0, 1282, 0) (p + 51))))))))))))))))))
def beforeOk (q : Nat) : Bool := opIs q (4, 1, 0, 0) (q + 1) && (argsOk 2 (q + 1) 1 && opIs (q + 13) (4, 3, 0, 0) (q + 14))
theorem after_ok : (afterOk 341 210 && (afterOk 409 215 && (beforeOk 324 && beforeOk 392))) = true := by decide +kernel
def headOk : Bool := opIs 23 (2, 4, 0, 0) 25 && (opIs 25 (4, 0, 0, 0) 26 && (opIs 26 (35, 0, 0, 0) 27 && (opIs 27 (0, 0, 0, 6) 29 && (opIs 29 (9, 1, 0, 0) 30 && (opIs 30 (19, 4, 1288, 0) 33 && (opIs 33 (4, 0, 0, 0) 34 && (opIs 34 (2, 4, 0, 0) 36 && (opIs 36 (27, 0, 0, 0) 37 && (opIs 37 (0, 0, 0, 63) 39 && (opIs 39 (9, 5, 0, 0) 40 && (opIs 40 (23, 0, 0, 0) 200 && (opIs 1282 (8, 4, 0, 6) 1285 && (opIs 1285 (22, 0, 23, 0) 1288 && opIs 1288 (0, 0, 0, 1) 1289)))))))))))))
theorem head_ok : headOk = true := by decide +kernel
section LW3
variable {E : Evf} {w0 w w1 w2 : Wd} {X : Nat → Int32} {i Ln : Nat}
theorem before_run (h : SX6 w X i Ln) {q : Nat} (ok : beforeOk q = true) : PT E M0 (q, LV i, [], w) (q + 14, LV i, [.ref 191, .int (X 2), .int (X 1), .ref 0], w) := by
  unfold beforeOk at ok
  rw [Bool.and_eq_true, Bool.and_eq_true] at ok
  obtain ⟨o1, o2, o3⟩ := ok
  refine PT.st (opIs_t o1) rfl ((args_run h rfl rfl 2 (st := [.ref 0]) (by omega) o2).trans ?_)
  rw [show q + 1 + 6 * 2 = q + 13 by omega]
  exact PT.st (opIs_t o3) rfl PT.refl
theorem lg_cmp_s (x : Int64) : lg_cmp x x = 0 := by
  unfold lg_cmp
  simp
theorem after_run (h : SX6 w X i Ln) {p ny : Nat} {k b : Int32} (ok : afterOk p ny = true) (hk : k = 0 ∧ wL w1 191 0 = b.toInt64 ∨ k = 1) (hn : wn w1 = 192) (e1 : E ny [.ref 166, .int (X 1), .int (X 2)] w (some (.int b)) w1) (e2 : E 184 [.ref 166] w1 (some (.int k)) w1) : PT E M0 (p, LV i, [.int k], w) (1282, LV i, [], w1) := by
  unfold afterOk at ok
  rw [Bool.and_eq_true, Bool.and_eq_true, Bool.and_eq_true, Bool.and_eq_true, Bool.and_eq_true, Bool.and_eq_true, Bool.and_eq_true, Bool.and_eq_true, Bool.and_eq_true, Bool.and_eq_true, Bool.and_eq_true, Bool.and_eq_true, Bool.and_eq_true, Bool.and_eq_true, Bool.and_eq_true, Bool.and_eq_true, Bool.and_eq_true, Bool.and_eq_true] at ok
  obtain ⟨o1, o2, o3, o4, o5, o6, o7, o8, o9, o10, o11, o12, o13, o14, o15, o16, o17, o18, o19⟩ := ok
  refine PT.st (b := (p + 2, (5, .int k) :: LV i, [], w)) (opIs_t o1) rfl (PT.st (opIs_t o2) rfl ((args_run h rfl rfl 2 (st := [.ref 166]) (by omega) o3).trans ?_))
  rw [show p + 3 + 6 * 2 = p + 15 by omega]
  have c1 := call_run (lv := (5, .int k) :: LV i) (as := [.ref 166, .int (X 1), .int (X 2)]) (rest := []) (opIs_t o4) (by decide) e1
  refine PT.trans c1 (PT.st (b := (p + 20, (6, .int b) :: (5, .int k) :: LV i, [], w1)) (opIs_t o5) rfl (PT.st (opIs_t o6) rfl ?_))
  have c2 := call_run (lv := (6, .int b) :: (5, .int k) :: LV i) (as := [.ref 166]) (rest := []) (opIs_t o7) (by decide) e2
  refine PT.trans c2 (PT.st (b := (p + 26, (6, .int b) :: (5, .int k) :: LV i, [.int k, .int k], w1)) (opIs_t o8) rfl (PT.st (b := (p + 31, (6, .int b) :: (5, .int k) :: LV i, [], w1)) (opIs_t o9) ?_ (PT.st (b := (p + 33, (6, .int b) :: (5, .int k) :: LV i, [.int k], w1)) (opIs_t o10) rfl ?_)))
  · show some (bif decide (k = k) then p + 31 else p + 29, (6, Value.int b) :: (5, Value.int k) :: LV i, ([] : List Value), w1) = _
    rw [decide_eq_true rfl]
    rfl
  · have fin : PT E M0 (p + 48, (6, .int b) :: (5, .int k) :: LV i, [], w1) (1282, LV i, [], w1) := PT.st (opIs_t o19) rfl (PT.fgt (LV i) ⟨rfl, rfl, rfl, rfl, rfl, trivial⟩ PT.refl)
    rcases hk with ⟨rfl, hw⟩ | rfl
    · refine PT.st (b := (p + 36, (6, .int b) :: (5, .int 0) :: LV i, [], w1)) (opIs_t o11) rfl (PT.st (opIs_t o12) rfl (PT.st (opIs_t o13) rfl (PT.st (b := (p + 39, (6, .int b) :: (5, .int 0) :: LV i, [.long (wL w1 191 0)], w1)) (opIs_t o14) ?_ (PT.st (opIs_t o15) rfl (PT.st (opIs_t o16) rfl (PT.st (b := (p + 43, (6, .int b) :: (5, .int 0) :: LV i, [.int 0], w1)) (opIs_t o17) ?_ (PT.st (b := (p + 48, (6, .int b) :: (5, .int 0) :: LV i, [], w1)) (opIs_t o18) rfl fin)))))))
      · show (if zobj w1 191 102 = true ∧ ib 0 (zsh 191).2 = true then some (p + 39, (6, Value.int b) :: (5, Value.int 0) :: LV i, [Value.long (wL w1 191 (ix 0))], w1) else none) = _
        have hz : zobj w1 191 102 = true := by
          unfold zobj
          rw [hn]
          decide +kernel
        rw [if_pos ⟨hz, by decide +kernel⟩]
        rfl
      · show some (p + 43, (6, Value.int b) :: (5, Value.int 0) :: LV i, [Value.int (lg_cmp (wL w1 191 0) b.toInt64)], w1) = _
        rw [hw, lg_cmp_s]
    · exact PT.st (b := (p + 48, (6, .int b) :: (5, .int 1) :: LV i, [], w1)) (opIs_t o11) rfl fin
theorem sub6 (L a : Nat) (hL : L ≤ 3072) (ha : a ≤ 4000) : decide (nI L - 6 < nI a) = decide (L < a + 6) := by
  by_cases q : L < 6
  · have k : ∀ L, L < 6 → nI L - 6 < 0 := by decide +kernel
    rw [decide_eq_true (Int32.lt_of_lt_of_le (k L q) (n0le (by omega))), decide_eq_true (by omega)]
  · have e : nI L - 6 = nI (L - 6) := by
      have h := nI_p (L - 6) 6
      rw [show L - 6 + 6 = L by omega] at h
      rw [← h]
      exact Int32.add_sub_cancel _ _
    rw [e]
    by_cases q2 : L < a + 6
    · rw [decide_eq_true q2, decide_eq_true (nlt (by omega) (by omega))]
    · rw [decide_eq_false q2, decide_eq_false]
      intro h
      exact Int32.lt_irrefl (Int32.lt_of_lt_of_le h (nle (a := a) (b := L - 6) (by omega) (by omega)))
theorem head_run {i Ln : Nat} (hi : i ≤ 600) (hw : wI w 1003 0 = nI Ln) (hL : Ln ≤ 3072) : PT E M0 (23, LV i, [], w) (bif decide (Ln < 6 * i + 6) then 1288 else 33, LV i, [], w) := by
  have ok := head_ok
  unfold headOk at ok
  rw [Bool.and_eq_true, Bool.and_eq_true, Bool.and_eq_true, Bool.and_eq_true, Bool.and_eq_true, Bool.and_eq_true, Bool.and_eq_true, Bool.and_eq_true, Bool.and_eq_true, Bool.and_eq_true, Bool.and_eq_true, Bool.and_eq_true, Bool.and_eq_true, Bool.and_eq_true] at ok
  obtain ⟨o1, o2, o3, o4, o5, o6, -⟩ := ok
  refine PT.st (opIs_t o1) rfl (PT.st (opIs_t o2) rfl (PT.st (b := (27, LV i, [.int (nI Ln), .int (nI (6 * i))], w)) (opIs_t o3) ?_ (PT.st (opIs_t o4) rfl (PT.st (opIs_t o5) rfl (PT.st (opIs_t o6) ?_ PT.refl)))))
  · show (if (1000 : Nat) = 1000 then some (27, LV i, [Value.int (wI w 1003 0), Value.int (nI (6 * i))], w) else if (1000 : Nat) = 1001 then some (27, LV i, [Value.int 20, Value.int (nI (6 * i))], w) else none) = _
    rw [if_pos rfl, hw]
  · show some (bif decide (nI Ln - 6 < nI (6 * i)) then 1288 else 33, LV i, ([] : List Value), w) = _
    rw [sub6 Ln (6 * i) hL (by omega)]
theorem dis_run (h : SX6 w X i Ln) : PT E M0 (33, LV i, [], w) (zsw3 0 (X 0 &&& 63), LV i, [], w) := by
  have ok := head_ok
  unfold headOk at ok
  rw [Bool.and_eq_true, Bool.and_eq_true, Bool.and_eq_true, Bool.and_eq_true, Bool.and_eq_true, Bool.and_eq_true, Bool.and_eq_true, Bool.and_eq_true, Bool.and_eq_true, Bool.and_eq_true, Bool.and_eq_true, Bool.and_eq_true, Bool.and_eq_true, Bool.and_eq_true] at ok
  obtain ⟨-, -, -, -, -, -, o7, o8, o9, o10, o11, o12, -⟩ := ok
  obtain ⟨h1, h2, h3, h4⟩ := h
  refine PT.st (opIs_t o7) rfl (PT.st (opIs_t o8) rfl (PT.st (b := (37, LV i, [.int (X 0)], w)) (opIs_t o9) ?_ (PT.st (opIs_t o10) rfl (PT.st (b := (40, LV i, [.int (X 0 &&& 63)], w)) (opIs_t o11) rfl (PT.st (opIs_t o12) rfl PT.refl)))))
  show (if (1000 : Nat) = 1000 then (if ib (nI (6 * i)) (ix (wI w 1003 0)) = true then some (37, LV i, [Value.int (wI w 1000 (ix (nI (6 * i))))], w) else none) else (if zobj w 1000 101 = true ∧ ib (nI (6 * i)) (zsh 1000).2 = true then some (37, LV i, [Value.int (wI w 1000 (ix (nI (6 * i))))], w) else none)) = _
  have h0 := h4 0 (by omega)
  rw [Nat.add_zero] at h0
  rw [if_pos rfl, h1, ix_nI (by omega), if_pos (ib_nI (by omega) (by omega)), ix_nI (by omega), h0]
theorem tail_run : PT E M0 (1282, LV i, [], w) (23, LV (i + 1), [], w) ∧ PT E M0 (1288, LV i, [], w) (1289, LV i, [.int 1], w) := by
  have ok := head_ok
  unfold headOk at ok
  rw [Bool.and_eq_true, Bool.and_eq_true, Bool.and_eq_true, Bool.and_eq_true, Bool.and_eq_true, Bool.and_eq_true, Bool.and_eq_true, Bool.and_eq_true, Bool.and_eq_true, Bool.and_eq_true, Bool.and_eq_true, Bool.and_eq_true, Bool.and_eq_true, Bool.and_eq_true] at ok
  obtain ⟨-, -, -, -, -, -, -, -, -, -, -, -, o13, o14, o15⟩ := ok
  refine ⟨PT.st (b := (1285, LV (i + 1), [], w)) (opIs_t o13) ?_ (PT.st (opIs_t o14) rfl PT.refl), PT.st (opIs_t o15) rfl PT.refl⟩
  show some (1285, (4, Value.int (nI (6 * i) + nI 6)) :: [(3, Value.ref 191), (2, .ref 166), (1, .ref 0), (0, .ref 1000)], ([] : List Value), w) = _
  rw [nI_p]
  rfl
end LW3
