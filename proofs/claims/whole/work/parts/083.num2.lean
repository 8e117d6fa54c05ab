/-! literals, steps of programs, floorMod, bits -/
theorem jl {j n : Nat} (h : j < n) (hn : n < 2147483648) : nI j < (OfNat.ofNat n : Int32) := nlt h hn
theorem jnl {j n : Nat} (h : n ≤ j) (hj : j < 2147483648) : ¬ nI j < (OfNat.ofNat n : Int32) := nnlt h hj
theorem jle {j n : Nat} (h : j ≤ n) (hn : n < 2147483648) : nI j ≤ (OfNat.ofNat n : Int32) := nle h hn
theorem jnle {j n : Nat} (h : n < j) (hj : j < 2147483648) : ¬ nI j ≤ (OfNat.ofNat n : Int32) := nnle h hj
theorem jp {n : Nat} (h : 0 < n) (hn : n < 2147483648) : (0 : Int32) < nI n := (nlt h hn : nI 0 < nI n)
theorem jle' {a n : Nat} (h : a ≤ n) (hn : n < 2147483648) : (OfNat.ofNat a : Int32) ≤ nI n := nle h hn
theorem jnl' {a n : Nat} (h : n ≤ a) (ha : a < 2147483648) : ¬ (OfNat.ofNat a : Int32) < nI n := nnlt h ha
theorem lit (n : Nat) : (OfNat.ofNat n : Int32) = nI n := rfl
theorem l0 : (0 : Int32) = nI 0 := rfl
theorem l1 : (1 : Int32) = nI 1 := rfl
theorem l2 : (2 : Int32) = nI 2 := rfl
theorem l3 : (3 : Int32) = nI 3 := rfl
theorem l4 : (4 : Int32) = nI 4 := rfl
theorem l6 : (6 : Int32) = nI 6 := rfl
theorem l7 : (7 : Int32) = nI 7 := rfl
theorem l8 : (8 : Int32) = nI 8 := rfl
theorem l9 : (9 : Int32) = nI 9 := rfl
theorem l12 : (12 : Int32) = nI 12 := rfl
theorem l13 : (13 : Int32) = nI 13 := rfl
theorem l19 : (19 : Int32) = nI 19 := rfl
theorem l25 : (25 : Int32) = nI 25 := rfl
theorem l41 : (41 : Int32) = nI 41 := rfl
theorem l54 : (54 : Int32) = nI 54 := rfl
theorem l144 : (144 : Int32) = nI 144 := rfl
theorem l169 : (169 : Int32) = nI 169 := rfl
theorem l177 : (177 : Int32) = nI 177 := rfl
theorem l183 : (183 : Int32) = nI 183 := rfl
theorem l429 : (429 : Int32) = nI 429 := rfl
theorem l430 : (430 : Int32) = nI 430 := rfl
theorem l436 : (436 : Int32) = nI 436 := rfl
theorem l1012 : (1012 : Int32) = nI 1012 := rfl
theorem l2308 : (2308 : Int32) = nI 2308 := rfl
theorem l9655 : (9655 : Int32) = nI 9655 := rfl
theorem cl_s {α β : Type} {r : α} {w : Wd} {f : α → Wd → Option β} : cl (some (r, w)) f = f r w := rfl
theorem cl_e {α β : Type} {m : Option (α × Wd)} {r : α} {w : Wd} {f : α → Wd → Option β} (h : m = some (r, w)) : cl m f = f r w := by subst h; rfl
theorem lt_s_ {α β : Type} {x : α} {f : α → β} : lt x f = f x := rfl
theorem stI_s {β : Type} {w : Wd} {k j : Nat} {v : Int32} {f : Wd → Option β} : stI w k j v f = f (sI w k j v) := rfl
theorem stL_s {β : Type} {w : Wd} {k j : Nat} {v : Int64} {f : Wd → Option β} : stL w k j v f = f (sL w k j v) := rfl
theorem der_s {β : Type} {a : Nat} {f : Nat → Option β} : der (some a) f = f a := rfl
theorem der_e {β : Type} {o : Option Nat} {a : Nat} {f : Nat → Option β} (h : o = some a) : der o f = f a := by subst h; rfl
theorem jn_s {A α : Type} {J : A → Wd → Option (α × Wd)} {f : (A → Wd → Option (α × Wd)) → Option (α × Wd)} : jn J f = f J := rfl
theorem n_and (a b : Nat) : nI a &&& nI b = nI (a &&& b) := by
  apply Int32.toBitVec_inj.1
  show BitVec.ofNat 32 a &&& BitVec.ofNat 32 b = BitVec.ofNat 32 (a &&& b)
  apply BitVec.eq_of_getLsbD_eq
  intro i hi
  simp [hi]
theorem n_or (a b : Nat) : nI a ||| nI b = nI (a ||| b) := by
  apply Int32.toBitVec_inj.1
  show BitVec.ofNat 32 a ||| BitVec.ofNat 32 b = BitVec.ofNat 32 (a ||| b)
  apply BitVec.eq_of_getLsbD_eq
  intro i hi
  simp [hi]
theorem n_xor (a b : Nat) : nI a ^^^ nI b = nI (a ^^^ b) := by
  apply Int32.toBitVec_inj.1
  show BitVec.ofNat 32 a ^^^ BitVec.ofNat 32 b = BitVec.ofNat 32 (a ^^^ b)
  apply BitVec.eq_of_getLsbD_eq
  intro i hi
  simp [hi]
/-- floorMod of what isn't negative -/
theorem x_fm {n m : Nat} (w : Wd) (hn : n < 2147483648) (h0 : 0 < m) (hm : m < 2147483648) : sh_71 (nI n) (nI m) w = some (nI (n % m), w) := by
  unfold sh_71
  rw [decide_eq_true (nI_ne0 h0 hm), nI_rem hn h0 hm]
  show (if nI n ^^^ nI m < 0 then _ else _) = _
  rw [n_xor, if_neg (jnl (Nat.zero_le _) (Nat.xor_lt_two_pow (n := 31) hn hm))]
/-- floorMod of a small difference by 9 -/
theorem x_fm9 {a b : Nat} (w : Wd) (ha : a < 10000) (hb : b ≤ a + 9) : sh_71 (nI a - nI b) 9 w = some (nI ((a + 9 - b) % 9), w) := by
  by_cases h : b ≤ a
  · rw [pk_sub h]
    rw [show (a + 9 - b) % 9 = (a - b) % 9 by omega]
    exact x_fm (m := 9) w (by omega) (by decide) (by decide)
  · have e : nI a - nI b = 0 - nI (b - a) := by
      rw [i_eq, i_sub (by rw [i_nI (by omega), i_nI (by omega)]; omega), i_sub (by rw [i_nI (by omega)]; show -2147483648 ≤ 0 - _ ∧ 0 - _ < _; omega), i_nI (by omega), i_nI (by omega), i_nI (by omega)]
      show _ = 0 - _
      omega
    rw [e]
    have key : ∀ c, c < 10 → 0 < c → sh_71 (0 - nI c) 9 w = some (nI ((9 - c) % 9), w) := by
      intro c hc hc0
      have : c = 1 ∨ c = 2 ∨ c = 3 ∨ c = 4 ∨ c = 5 ∨ c = 6 ∨ c = 7 ∨ c = 8 ∨ c = 9 := by omega
      rcases this with q | q | q | q | q | q | q | q | q <;> subst q <;> rfl
    rw [key (b - a) (by omega) (by omega)]
    rw [show 9 - (b - a) = a + 9 - b by omega]
theorem x_76 {n : Nat} (w : Wd) (hn : n < 2147483648) : sh_76 (nI n) w = some (nI (n % 9), w) := by
  unfold sh_76
  rw [l9, cl_e (x_fm (m := 9) w hn (by decide) (by decide))]
theorem x_75 {k : Nat} (w : Wd) (hk : k < 6) : sh_75 (nI k) w = some (true, w) := by
  unfold sh_75 lt
  rw [if_pos (n0le (by omega)), if_pos (jl hk (by decide))]
theorem x_77 {t : Nat} (w : Wd) (ht : t < 144) : sh_77 (nI t) w = some (true, w) := by
  unfold sh_77 lt
  rw [if_pos (n0le (by omega)), if_pos (jl ht (by decide))]
theorem x_78 (s t k : Nat) (w : Wd) : sh_78 (nI s) (nI t) (nI k) w = some (nI ((s * 144 + t) * 6 + k), w) := by
  unfold sh_78
  rw [l144, l6, nI_m, nI_p, nI_m, nI_p]
theorem m_214 {o t k a : Nat} (w : Wd) (ht : t < 144) (hk : k < 6) (ha : a < 9) : sh_214 o (nI t) (nI k) (nI a) w = some (wI w (o + 2) (2308 + (6 * t + k) * 9 + a), w) := by
  unfold sh_214
  rw [l2308, l6, l9, nI_m, nI_p, nI_m, nI_p, nI_p, gd_nI (by omega) (by decide), ix_nI (by omega)]
/-- sums in another order -/
def sl (d a : Nat) : Nat := (d + 9 - a) % 9
theorem sl_lt {d a : Nat} : sl d a < 9 := Nat.mod_lt _ (by decide)
theorem sl_m {d a : Nat} (h : a < 9) : sl d a = sl (d % 9) a := by unfold sl; omega
theorem sl_inj {d a b : Nat} (ha : a < 9) (hb : b < 9) (h : sl d a = sl d b) : a = b := by unfold sl at h; omega
theorem sl_sl {d s : Nat} (hs : s < 9) : sl d (sl d s) = s := by unfold sl; omega
theorem sm_sl (d : Nat) (f : Nat → Int32) : sm 9 f = sm 9 (fun a => f (sl d a)) := by
  have e : sm 9 (fun a => f (sl d a)) = sm 9 (fun a => f (sl (d % 9) a)) := sm_c (fun i hi => by rw [sl_m hi])
  rw [e]
  have h : d % 9 = 0 ∨ d % 9 = 1 ∨ d % 9 = 2 ∨ d % 9 = 3 ∨ d % 9 = 4 ∨ d % 9 = 5 ∨ d % 9 = 6 ∨ d % 9 = 7 ∨ d % 9 = 8 := by omega
  rcases h with h | h | h | h | h | h | h | h | h <;> rw [h] <;> simp only [sm, sl, Nat.reduceAdd, Nat.reduceSub, Nat.reduceMod] <;> ac_rfl
theorem sm_one {n k : Nat} {f : Nat → Int32} (hk : k < n) (h : ∀ i, i < n → ¬ i = k → f i = 0) : sm n f = f k := by
  induction n with
  | zero => omega
  | succ n ih =>
    show sm n f + f n = _
    by_cases e : k = n
    · subst e
      rw [sm_0 (fun i hi => h i (by omega) (by omega)), Int32.zero_add]
    · rw [ih (by omega) (fun i hi hn => h i (by omega) hn), h n (by omega) (fun q => e q.symm), Int32.add_zero]
/-- one term of a sum anew -/
theorem sm_up {n k : Nat} {f g : Nat → Int32} {c : Int32} (hk : k < n) (h : ∀ i, i < n → ¬ i = k → g i = f i) (hc : g k = f k + c) : sm n g = sm n f + c := by
  have e : sm n g = sm n (fun i => f i + (if i = k then c else 0)) := sm_c (fun i hi => by
    by_cases q : i = k
    · subst q; rw [if_pos rfl, hc]
    · rw [if_neg q, h i hi q, Int32.add_zero])
  rw [e, sm_add, sm_one (f := fun i => if i = k then c else 0) hk (fun i _ hn => if_neg hn), if_pos rfl]
