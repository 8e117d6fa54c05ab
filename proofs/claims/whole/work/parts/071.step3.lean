/-! .. rows, new objects -/
section ZT3
variable {dC : Nat → ClassId} {dI : Nat → Nat → Nat} {dA : Nat → ClassId} {B L : Nat} {xs : Nat → Int32} {sa : Nat → Nat}
variable {p : Program} {l : Launch} {e : Env} {R : Room} {s : State} {m : MethodId} {args : Array Value} {below : List Frame} {meth : Method} {c : Code} {Q : State → Prop}
def zslt : Nat → Nat
  | 0 => 0
  | n + 1 => zslt n + (zsh n).2
theorem zset_i {w : Wd} {o j t : Nat} {x : Int32} (ho : o < wn w) (hs : (zsh o).1 = t) (ht : t = 101 ∨ t = 103 ∨ t = 104) : (zws dA B sa w).set o (B + o, .inl (dA t, (zsh o).2, .inl (upd (wI w o) j x))) = zws dA B sa (sI w o j x) := by
  rw [← zws_set (w := w) (w' := sI w o j x) rfl ho (zrow_sI w o j x), zcell_int hs ht]
  congr 5
  refine congrArg _ ?_
  funext b
  simp [upd, wI_sI]
theorem zset_l {w : Wd} {o j : Nat} {x : Int64} (ho : o < wn w) (hs : (zsh o).1 = 102) : (zws dA B sa w).set o (B + o, .inl (dA 102, (zsh o).2, .inr (.inl (vp_updL (wL w o) j x)))) = zws dA B sa (sL w o j x) := by
  rw [← zws_set (w := w) (w' := sL w o j x) rfl ho (zrow_sL w o j x), zcell_long hs]
  congr 6
  refine congrArg _ ?_
  funext b
  simp [vp_updL, wL_sL]
theorem zset_q {w : Wd} {o j t q : Nat} (ho : o < wn w) (hs : (zsh o).1 = t) (ht : 110 ≤ t) : (zws dA B sa w).set o (B + o, .inl (dA t, (zsh o).2, .inr (.inr (.inr (.inr (va_up (fun b => (wR w o b).map (zad B sa)) j (some (zad B sa q)))))))) = zws dA B sa (sR w o j (some q)) := by
  rw [← zws_set (w := w) (w' := sR w o j (some q)) rfl ho (zrow_sR w o j (some q)), zcell_ref hs ht]
  congr 8
  refine congrArg _ ?_
  funext b
  by_cases h : b = j
  · subst h; simp [va_up, wR_sR]
  · simp [va_up, wR_sR, h]
theorem zrow_rI (w : Wd) (o : Nat) (f : Nat → Int32) (i : Nat) (h : i ≠ o) : wI (rI w o f) i = wI w i ∧ wL (rI w o f) i = wL w i ∧ wR (rI w o f) i = wR w i := ⟨by funext b; simp [wI_rI, h], rfl, rfl⟩
theorem zrow_rL (w : Wd) (o : Nat) (f : Nat → Int64) (i : Nat) (h : i ≠ o) : wI (rL w o f) i = wI w i ∧ wL (rL w o f) i = wL w i ∧ wR (rL w o f) i = wR w i := ⟨rfl, by funext b; simp [wL_rL, h], rfl⟩
theorem zset_ri {w : Wd} {o : Nat} {f : Nat → Int32} (ho : o < wn w) (hs : (zsh o).1 = 101) : (zws dA B sa w).set o (B + o, .inl (dA 101, (zsh o).2, .inl f)) = zws dA B sa (rI w o f) := by
  rw [← zws_set (w := w) (w' := rI w o f) rfl ho (zrow_rI w o f), zcell_int hs (Or.inl rfl)]
  congr 5
  refine congrArg _ ?_
  funext b
  simp [wI_rI]
theorem zset_rl {w : Wd} {o : Nat} {f : Nat → Int64} (ho : o < wn w) (hs : (zsh o).1 = 102) : (zws dA B sa w).set o (B + o, .inl (dA 102, (zsh o).2, .inr (.inl f))) = zws dA B sa (rL w o f) := by
  rw [← zws_set (w := w) (w' := rL w o f) rfl ho (zrow_rL w o f), zcell_long hs]
  congr 6
  refine congrArg _ ?_
  funext b
  simp [wL_rL]
/-- one object more -/
theorem zws_alc {w : Wd} {z : va_E} (h : zcell dA B sa (alc w) (wn w) = z) : zws dA B sa (alc w) = zws dA B sa w ++ [(B + wn w, z)] := by
  apply List.ext_getElem?
  intro i
  have hn : wn (alc w) = wn w + 1 := rfl
  by_cases hi : i < wn w
  · rw [zws_get (by rw [hn]; omega), List.getElem?_append_left (by rw [zws_len]; exact hi), zws_get hi]
    have hne : ¬ i = wn w := by omega
    have g1 : wI (alc w) i = wI w i := by funext b; show (if i = wn w then _ else _) = _; rw [if_neg hne]
    have g2 : wL (alc w) i = wL w i := by funext b; show (if i = wn w then _ else _) = _; rw [if_neg hne]
    have g3 : wR (alc w) i = wR w i := by funext b; show (if i = wn w then _ else _) = _; rw [if_neg hne]
    rw [zcell_congr g1 g2 g3]
  · by_cases he : i = wn w
    · subst he
      rw [zws_get (by rw [hn]; omega), List.getElem?_append_right (by rw [zws_len]; omega), zws_len, Nat.sub_self, h]; rfl
    · rw [List.getElem?_eq_none (by rw [zws_len, hn]; omega), List.getElem?_eq_none (by rw [List.length_append, zws_len, List.length_singleton]; omega)]
theorem zalc_I (w : Wd) (j : Nat) : wI (alc w) (wn w) j = 0 := by show (if wn w = wn w then _ else _) = _; rw [if_pos rfl]
theorem zalc_L (w : Wd) (j : Nat) : wL (alc w) (wn w) j = 0 := by show (if wn w = wn w then _ else _) = _; rw [if_pos rfl]
theorem zalc_R (w : Wd) (j : Nat) : wR (alc w) (wn w) j = none := by show (if wn w = wn w then _ else _) = _; rw [if_pos rfl]
theorem zscr_alc {w : Wd} (h : zScr L xs w) (hn : wn w < 1000) : zScr L xs (alc w) := by
  refine ⟨fun j => ?_, ?_, h.2.2⟩
  · show (if (1000 : Nat) = wn w then _ else _) = _
    rw [if_neg (by omega)]; exact h.1 j
  · show (if (1003 : Nat) = wn w then _ else _) = _
    rw [if_neg (by omega)]; exact h.2.1
theorem zscr_rI {w : Wd} (h : zScr L xs w) {o : Nat} (f : Nat → Int32) (ho : o < 192) : zScr L xs (rI w o f) := ⟨fun j => by rw [wI_rI, if_neg (by omega)]; exact h.1 j, by rw [wI_rI, if_neg (by omega)]; exact h.2.1, h.2.2⟩
theorem zdef_val : ∀ c, c < 11 → ∀ k, k < zN c → (match zTy c k with
    | .object _ => zFk c k = 2
    | .array _ => zFk c k = 2
    | .long => zFk c k = 1
    | .int => zFk c k = 0
    | .boolean => zFk c k = 0
    | _ => False) := by
  intro c hc k hk
  have h := (by decide +kernel : ∀ c, c < 11 → ∀ k, k < zN c → (match zTy c k with
    | .object _ => decide (zFk c k = 2)
    | .array _ => decide (zFk c k = 2)
    | .long => decide (zFk c k = 1)
    | .int => decide (zFk c k = 0)
    | .boolean => decide (zFk c k = 0)
    | _ => false) = true) c hc k hk
  split at h <;> simp_all
theorem zhp_low {w : Wd} {H H0 : Heap} {locs : List Loc} (hP : zHp dC dI dA B sa w H) (hS : va_S (zA B) H0 H locs) (hB : B ≤ H0.size) : B + wn w ≤ H.size := by
  by_cases h : wn w = 0
  · have := hS.1; omega
  · have h1 := (hP.1 (wn w - 1) _ (zws_get (by omega))).lt
    dsimp only at h1
    omega
theorem zhp_new {w : Wd} {H H1 H0 : Heap} {locs : List Loc} {z : va_E} (hP : zHp dC dI dA B sa w H) (hS : va_S (zA B) H0 H locs) (hB : B ≤ H0.size) (hz : zcell dA B sa (alc w) (wn w) = z) (hsz : H.size = B + wn w) (hK : wn w < zK) (hat : va_at (dC, dI) zcl (B + wn w, z) H1) (z1 : H1.size = H.size + 1) (o1 : ∀ q, q < H.size → H1[q]? = H[q]?) :
    zHp dC dI dA B sa (alc w) H1 ∧ va_S (zA B) H0 H1 locs := by
  have hk : ∀ (k : Nat) (x : Nat × va_E), (zws dA B sa w)[k]? = some x → H1[x.1]? = H[x.1]? := fun k x hx => o1 x.1 ((hP.1 k x hx).lt)
  refine ⟨⟨?_, hK⟩, Nat.le_trans hS.1 (by omega), fun x h1 h2 => (o1 x (Nat.lt_of_lt_of_le h1 hS.1)).trans (hS.2.1 x h1 h2), hS.2.2⟩
  rw [zws_alc hz]
  refine (hP.1.kept hk).app (fun k x hx => ?_)
  have hz : k < 1 := (List.getElem?_eq_some_iff.mp hx).1
  rw [show k = 0 by omega] at hx
  cases hx
  exact hat
end ZT3
