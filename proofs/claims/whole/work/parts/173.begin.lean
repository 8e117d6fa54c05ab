/-! both systems in one world: the start; person and tuft -/
section BG
variable {w0 w : Wd}
theorem INI.sb (h : INI w0 w) : SB w0 w := by
  obtain ⟨hT, hx, h1, h3, ⟨r2, r3, r4, r5⟩, hz, h38, h48, h480, h60, h67, m1, m28, s1, s6, h190, hw⟩ := h
  have z : ∀ k, k ∈ [0, 1, 7, 15, 27, 35, 36, 37, 42, 47] → ∀ j, wI w k j = 0 := hz
  have s0 : ∀ j, ¬ j = 6 → wI w 168 j = nI 0 := s1
  have six : ∀ j, ¬ j = 6 → ix (wI w 168 j) = 0 := fun j hj => by rw [s0 j hj]; rfl
  have hF : WF (wI w 168) := by
    refine ⟨⟨0, 0, s0 0 (by decide), s0 1 (by decide), by omega, by omega⟩, ⟨0, s0 2 (by decide), by omega⟩, ⟨0, s0 3 (by decide), by omega⟩, ⟨0, s0 4 (by decide), by omega⟩, ⟨0, s0 5 (by decide), by omega⟩, ⟨9, s6, by omega, by omega⟩, fun k hk => ?_, fun t ht => Or.inl (s0 _ (by omega)), fun k hk => ?_, fun k hk => ?_⟩
    · rw [six 2 (by decide)] at hk; omega
    · rw [six 5 (by decide)] at hk; omega
    · rw [six 3 (by decide)] at hk; omega
  have sli : ∀ t k a, wI w 168 (LI t k a) = 0 := fun t k a => s1 _ (by unfold LI; omega)
  have hW : WR (wI w 168) := by
    refine ⟨⟨0, s0 429 (by decide), by omega⟩, fun t k a _ _ _ _ => sli t k a, fun t a _ _ _ => s1 _ (by omega), fun t _ _ k a _ _ => sli t k a, fun t ht q => ?_⟩
    obtain ⟨p, hp, e⟩ := q
    rw [s0 _ (by omega)] at e
    have := congrArg ix e
    rw [ix_nI (by omega), ix_nI (by omega)] at this
    omega
  have hR : RR (wI w 168) w 35 := by
    refine ⟨?_, fun k hk => ?_, fun t k a _ _ _ => ?_, fun t a _ _ => ?_, fun t ht => Or.inl ⟨s1 _ (by omega), h38 t ht⟩⟩
    · rw [z 35 (by decide), s1 429 (by decide)]
    · rw [z 42 (by decide), s1 _ (by omega)]
    · rw [sli]; exact z 36 (by decide) _
    · rw [show (35 + 2) = 37 from rfl, z 37 (by decide), s1 _ (by omega)]
      have hs : ∀ n, sm n (fun k => wI w 168 (LI t k a) * wt (wI w 168) k) = 0 := by
        intro n
        induction n with
        | zero => rfl
        | succ n ih =>
          show sm n (fun k => wI w 168 (LI t k a) * wt (wI w 168) k) + wI w 168 (LI t n a) * wt (wI w 168) n = 0
          rw [ih, sli, Int32.zero_mul]; rfl
      have : wsum (wI w 168) t a = 0 := hs 6
      rw [this]; rfl
  have hH : HR (wI w 168) w 7 := by
    refine ⟨?_, ?_, ?_, ?_, ?_, ?_, ?_, fun k hk => ?_, fun t ht => ?_, fun k hk => ?_, fun k hk => ?_⟩
    · rw [z 7 (by decide), s1 _ (by omega)]
    · rw [z 7 (by decide), s1 _ (by omega)]
    · rw [z 7 (by decide), s1 _ (by omega)]
    · rw [z 7 (by decide), s1 _ (by omega)]
    · rw [z 7 (by decide), s1 _ (by omega)]
    · rw [z 7 (by decide), s1 _ (by omega)]
    · rw [z 7 (by decide), s6]; rfl
    · rw [six 2 (by decide)] at hk; omega
    · rw [show 7 + 8 = 15 from rfl, z 15 (by decide), s1 _ (by omega)]
    · rw [six 5 (by decide)] at hk; omega
    · rw [six 3 (by decide)] at hk; omega
  have hX : XG (wI w 168) w := ⟨hF, hW, hR, 7, r2, Or.inl rfl, hH⟩
  have hN : XN (wI w 168) (wL w 171) w := by
    refine ⟨7, 17, 27, 31, r2, r3, r4, r5, Or.inl ⟨rfl, rfl⟩, Or.inl ⟨rfl, rfl⟩, ⟨fun k hk => ?_, fun k hk => ?_⟩, ⟨0, fun _ => 0, by omega, s0 _ (by omega), z 27 (by decide) 1, ⟨fun _ => rfl, fun _ => z 27 (by decide) 0⟩, rfl, fun h => absurd h (by omega), fun i hi => absurd hi (by omega)⟩⟩
    · rw [six 2 (by decide)] at hk; omega
    · rw [six 3 (by decide)] at hk; omega
  refine ⟨⟨h1, h3, hx⟩, hw, ⟨_, wL w 171, fun _ _ => 0, 0, hX, hN, rfl, fun _ _ => rfl, fun k l hk => ?_, ⟨by omega, 0, by omega, z 0 (by decide) 9, z 0 (by decide) 8, fun m hm => by omega⟩, ⟨m1 23 (by omega), fun m hm => by omega⟩, fun m hm => by omega⟩,
    ⟨fun _ => false, fun _ _ => 0, fun _ _ => 0, fun k hk => ⟨z 47 (by decide) k, fun h => absurd h Bool.false_ne_true⟩, fun k hk => ⟨h190 k, fun h => absurd h Bool.false_ne_true⟩, fun k hk h => absurd h Bool.false_ne_true⟩,
    ⟨0, fun _ => 0, ⟨by omega, z 1 (by decide) 1, fun j hj => by omega⟩, m1 2 (by omega), fun j hj => by omega⟩,
    ⟨false, fun _ => 0, ⟨h60, fun h => absurd h (by decide)⟩, m1 35 (by omega), fun h => absurd h (by decide)⟩,
    ⟨[], ⟨by decide, h67, fun j hj => absurd hj (Nat.not_lt_zero j)⟩, by decide, m1 42 (by omega), fun j hj => absurd hj (Nat.not_lt_zero j)⟩, ?_, Or.inl ⟨?_, m28, h480⟩⟩
  · rw [six 5 (by decide)] at hk; omega
  · unfold GF
    rw [z 1 (by decide), m1 15 (by omega)]
  · exact h48 13 (by decide)
/-- what the two methods that throw say -/
def okQ (S : Nat → Int32) (b : Bool) (p q : Int32) : Bool := if b then okT S p q else okP S p q
theorem c_person (w : Wd) (h : SB w0 w) (p q : Int32) : ∃ S, XS S w ∧ WF S ∧ (okP S p q = true → ∃ v, sh_180 0 p q w = some (v, w) ∧ ∀ w1, wI w1 168 = wI w 168 → sh_210 166 p q w1 = some (v, sI w1 166 0 0)) ∧ (okP S p q = false → ∀ w1, wI w1 168 = wI w 168 → ∃ v, sh_210 166 p q w1 = some (v, sI w1 166 0 1)) := by
  obtain ⟨S, a, b, c, d⟩ := h.xs
  refine ⟨S, a, b, fun ho => ?_, fun ho w1 e1 => ?_⟩
  · obtain ⟨k, i, rfl, rfl, hk, hi⟩ := okP_t b ho
    exact ⟨_, x_person a hk hi, fun w1 e1 => y_person (o := 166) b (e1.trans d) hk hi⟩
  · obtain ⟨v, e, -⟩ := y_personAll (o := 166) (w := w1) b (e1.trans d) p q
    rw [ho] at e
    exact ⟨v, e⟩
theorem c_tuft (w : Wd) (h : SB w0 w) (p q : Int32) : ∃ S, XS S w ∧ WF S ∧ (okT S p q = true → ∃ v, sh_181 0 p q w = some (v, w) ∧ ∀ w1, wI w1 168 = wI w 168 → sh_215 166 p q w1 = some (v, sI w1 166 0 0)) ∧ (okT S p q = false → ∀ w1, wI w1 168 = wI w 168 → ∃ v, sh_215 166 p q w1 = some (v, sI w1 166 0 1)) := by
  obtain ⟨S, a, b, c, d⟩ := h.xs
  refine ⟨S, a, b, fun ho => ?_, fun ho w1 e1 => ?_⟩
  · obtain ⟨k, i, rfl, rfl, hk, ok, hi⟩ := okT_t b ho
    exact ⟨_, x_tuft a hk ok hi, fun w1 e1 => y_tuft (o := 166) b c (e1.trans d) hk ok hi⟩
  · obtain ⟨v, e, -⟩ := y_tuftAll (o := 166) (w := w1) b c (e1.trans d) p q
    rw [ho] at e
    exact ⟨v, e⟩
end BG
