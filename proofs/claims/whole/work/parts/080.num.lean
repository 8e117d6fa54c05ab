/-! numbers, loops, sums: for the programs over worlds -/
theorem i_lt (a b : Int32) : a < b ↔ a.toInt < b.toInt := Int32.lt_iff_toInt_lt
theorem i_le (a b : Int32) : a ≤ b ↔ a.toInt ≤ b.toInt := Int32.le_iff_toInt_le
theorem i_eq (a b : Int32) : a = b ↔ a.toInt = b.toInt := Int32.toInt_inj.symm
theorem i_rng (x : Int32) : -2147483648 ≤ x.toInt ∧ x.toInt < 2147483648 := by
  have h1 := Int32.le_toInt x
  have h2 := Int32.toInt_lt x
  omega
theorem i_bm {z : Int} (h : -2147483648 ≤ z ∧ z < 2147483648) : z.bmod (2 ^ 32) = z := by
  rw [show (2 : Nat) ^ 32 = 4294967296 from rfl, Int.bmod_def]
  split <;> omega
theorem i_add {a b : Int32} (h : -2147483648 ≤ a.toInt + b.toInt ∧ a.toInt + b.toInt < 2147483648) : (a + b).toInt = a.toInt + b.toInt := by
  rw [Int32.toInt_add]; exact i_bm h
theorem i_sub {a b : Int32} (h : -2147483648 ≤ a.toInt - b.toInt ∧ a.toInt - b.toInt < 2147483648) : (a - b).toInt = a.toInt - b.toInt := by
  rw [Int32.toInt_sub]; exact i_bm h
theorem i_mul {a b : Int32} (h : -2147483648 ≤ a.toInt * b.toInt ∧ a.toInt * b.toInt < 2147483648) : (a * b).toInt = a.toInt * b.toInt := by
  rw [Int32.toInt_mul]; exact i_bm h
theorem i_ix (x : Int32) : ix x = x.toInt.toNat := rfl
theorem i_nI {n : Nat} (h : n < 2147483648) : (nI n).toInt = (n : Int) := nI_toInt h
theorem ix_nI {n : Nat} (h : n < 2147483648) : ix (nI n) = n := nI_clamp h
theorem i_lit {n : Nat} (h : n < 2147483648) : (OfNat.ofNat n : Int32).toInt = (n : Int) := nI_toInt h
/-- an int that isn't negative -/
theorem nI_ex {x : Int32} (h : 0 ≤ x) : ∃ n : Nat, n < 2147483648 ∧ x = nI n := by
  have h1 := (i_le _ _).mp h
  have h2 := i_rng x
  have h0 : (0 : Int32).toInt = 0 := rfl
  rw [h0] at h1
  refine ⟨x.toInt.toNat, by omega, ?_⟩
  rw [i_eq, i_nI (by omega)]
  omega
theorem nlt {a b : Nat} (h : a < b) (hb : b < 2147483648) : nI a < nI b := nI_lt h hb
theorem nnlt {a b : Nat} (h : b ≤ a) (ha : a < 2147483648) : ¬ nI a < nI b := nI_nlt h ha
theorem nle {a b : Nat} (h : a ≤ b) (hb : b < 2147483648) : nI a ≤ nI b := nI_le h hb
theorem nnle {a b : Nat} (h : b < a) (ha : a < 2147483648) : ¬ nI a ≤ nI b := nI_ge h ha
theorem n0le {a : Nat} (ha : a < 2147483648) : (0 : Int32) ≤ nI a := nI_pos' ha
theorem n_ne {a b : Nat} (h : ¬ a = b) (ha : a < 2147483648) (hb : b < 2147483648) : ¬ nI a = nI b := fun e => h ((nI_eq ha hb).mp e)
theorem ib_nI {j n : Nat} (h : j < n) (hn : n < 2147483648) : ib (nI j) n = true := by
  unfold ib
  rw [ix_nI (by omega), decide_eq_true (n0le (by omega)), decide_eq_true h]; rfl
theorem nI_s (j : Nat) : nI j + 1 = nI (j + 1) := nI_1 j
theorem nI_p (a b : Nat) : nI a + nI b = nI (a + b) := nI_add a b
theorem nI_m {a b : Nat} : nI a * nI b = nI (a * b) := (Int32.ofNat_mul a b).symm
theorem gd_t {β : Type} {b : Bool} {k : Option β} (h : b = true) : gd b k = k := by subst h; rfl
theorem gd_nI {β : Type} {k : Option β} {j n : Nat} (h : j < n) (hn : n < 2147483648) : gd (ib (nI j) n) k = k := gd_t (ib_nI h hn)
theorem FU_gt {n : Nat} (h : n < 1000000000000000) : n < FU := by unfold FU; omega
/-- a loop whose states are known -/
theorem itM_seq {S α : Type} {body : S → Wd → Option ((S ⊕ α) × Wd)} (F : Nat → S) (G : Nat → Wd) (n : Nat) {r : α} {w' : Wd} (hs : ∀ j, j < n → body (F j) (G j) = some (.inl (F (j + 1)), G (j + 1))) (he : body (F n) (G n) = some (.inr r, w')) {s : S} {w : Wd} (h0 : s = F 0) (hw : w = G 0) (hn : n < 1000000000000000) : itM body FU s w = some (r, w') := by
  subst h0; subst hw
  have key : ∀ (k j m : Nat), j + k = n → k < m → itM body m (F j) (G j) = some (r, w') := by
    intro k
    induction k with
    | zero =>
      intro j m hj hm
      obtain ⟨m, rfl⟩ : ∃ q, m = q + 1 := ⟨m - 1, by omega⟩
      have : j = n := by omega
      subst this
      show (match body (F j) (G j) with | none => none | some (.inl s', w') => itM body m s' w' | some (.inr r, w') => some (r, w')) = _
      rw [he]
    | succ k ih =>
      intro j m hj hm
      obtain ⟨m, rfl⟩ : ∃ q, m = q + 1 := ⟨m - 1, by omega⟩
      show (match body (F j) (G j) with | none => none | some (.inl s', w') => itM body m s' w' | some (.inr r, w') => some (r, w')) = _
      rw [hs j (by omega)]
      exact ih (j + 1) m (by omega) (by omega)
  exact key n 0 FU (by omega) (FU_gt hn)
/-- a loop over j from 0 to n, by its one running value; the world stays -/
theorem itM_acc {α S : Type} {body : Int32 × S → Wd → Option (((Int32 × S) ⊕ α) × Wd)} (A : Nat → S) (n : Nat) (w : Wd) {r : α} {w' : Wd} (hs : ∀ j, j < n → body (nI j, A j) w = some (.inl (nI (j + 1), A (j + 1)), w)) (he : body (nI n, A n) w = some (.inr r, w')) {s : Int32 × S} (h0 : s = (nI 0, A 0)) (hn : n < 1000000000000000) : itM body FU s w = some (r, w') :=
  itM_seq (fun j => (nI j, A j)) (fun _ => w) n hs he h0 rfl hn
/-- .. the running value ahead of the index -/
theorem itM_acc2 {α S : Type} {body : S × Int32 → Wd → Option (((S × Int32) ⊕ α) × Wd)} (A : Nat → S) (n : Nat) (w : Wd) {r : α} {w' : Wd} (hs : ∀ j, j < n → body (A j, nI j) w = some (.inl (A (j + 1), nI (j + 1)), w)) (he : body (A n, nI n) w = some (.inr r, w')) {s : S × Int32} (h0 : s = (A 0, nI 0)) (hn : n < 1000000000000000) : itM body FU s w = some (r, w') :=
  itM_seq (fun j => (A j, nI j)) (fun _ => w) n hs he h0 rfl hn
/-- a search: the first place where it ends, or none -/
theorem itM_find {α : Type} {body : Int32 → Wd → Option ((Int32 ⊕ α) × Wd)} (p : Nat → Bool) (R : Nat → α) (r0 : α) (n : Nat) (w : Wd) (hs : ∀ j, j < n → body (nI j) w = if p j = true then some (.inr (R j), w) else some (.inl (nI (j + 1)), w)) (he : body (nI n) w = some (.inr r0, w)) {s : Int32} (h0 : s = nI 0) (hn : n < 1000000000000000) :
    (∃ j, j < n ∧ p j = true ∧ (∀ i, i < j → p i = false) ∧ itM body FU s w = some (R j, w)) ∨ ((∀ i, i < n → p i = false) ∧ itM body FU s w = some (r0, w)) := by
  by_cases h : ∃ j, j < n ∧ p j = true
  · left
    obtain ⟨j, h1, h2, h3⟩ : ∃ j, j < n ∧ p j = true ∧ ∀ i, i < j → p i = false := by
      obtain ⟨j0, a, b⟩ := h
      have key : ∀ k, (∃ j, j < k ∧ p j = true) → ∃ j, j < k ∧ p j = true ∧ ∀ i, i < j → p i = false := by
        intro k
        induction k with
        | zero => intro ⟨j, hj, _⟩; omega
        | succ k ih =>
          intro ⟨j, hj, hp⟩
          by_cases q : ∃ j, j < k ∧ p j = true
          · obtain ⟨j', a1, a2, a3⟩ := ih q
            exact ⟨j', by omega, a2, a3⟩
          · have hjk : j = k := by
              by_cases e : j < k
              · exact absurd ⟨j, e, hp⟩ q
              · omega
            subst hjk
            exact ⟨j, by omega, hp, fun i hi => by
              cases hq : p i with
              | false => rfl
              | true => exact absurd ⟨i, hi, hq⟩ q⟩
      obtain ⟨j, b1, b2, b3⟩ := key n ⟨j0, a, b⟩
      exact ⟨j, b1, b2, b3⟩
    refine ⟨j, h1, h2, h3, itM_seq (fun i => nI i) (fun _ => w) j (fun i hi => ?_) ?_ h0 rfl (by omega)⟩
    · rw [hs i (by omega), if_neg (by rw [h3 i hi]; decide)]
    · rw [hs j h1, if_pos h2]
  · right
    have hf : ∀ i, i < n → p i = false := fun i hi => by
      cases hq : p i with
      | false => rfl
      | true => exact absurd ⟨i, hi, hq⟩ h
    refine ⟨hf, itM_seq (fun i => nI i) (fun _ => w) n (fun i hi => ?_) he h0 rfl hn⟩
    rw [hs i hi, if_neg (by rw [hf i hi]; decide)]
/-- sums of ints, as the machine makes them -/
def sm (n : Nat) (f : Nat → Int32) : Int32 := match n with
  | 0 => 0
  | n + 1 => sm n f + f n
theorem sm_c {n : Nat} {f g : Nat → Int32} (h : ∀ i, i < n → f i = g i) : sm n f = sm n g := by
  induction n with
  | zero => rfl
  | succ n ih => show sm n f + f n = sm n g + g n; rw [ih (fun i hi => h i (by omega)), h n (by omega)]
theorem sm_0 {n : Nat} {f : Nat → Int32} (h : ∀ i, i < n → f i = 0) : sm n f = 0 := by
  induction n with
  | zero => rfl
  | succ n ih => show sm n f + f n = 0; rw [ih (fun i hi => h i (by omega)), h n (by omega)]; rfl
theorem sm_add {n : Nat} {f g : Nat → Int32} : sm n (fun i => f i + g i) = sm n f + sm n g := by
  induction n with
  | zero => rfl
  | succ n ih =>
    show sm n (fun i => f i + g i) + (f n + g n) = (sm n f + f n) + (sm n g + g n)
    rw [ih]
    ac_rfl
theorem sm_mul {n : Nat} {f : Nat → Int32} {c : Int32} : sm n (fun i => f i * c) = sm n f * c := by
  induction n with
  | zero => show (0 : Int32) = 0 * c; rw [Int32.zero_mul]
  | succ n ih =>
    show sm n (fun i => f i * c) + f n * c = (sm n f + f n) * c
    rw [ih, Int32.add_mul]
theorem sm_sub {n : Nat} {f g : Nat → Int32} : sm n (fun i => f i - g i) = sm n f - sm n g := by
  induction n with
  | zero => show (0 : Int32) = 0 - 0; decide
  | succ n ih =>
    show sm n (fun i => f i - g i) + (f n - g n) = (sm n f + f n) - (sm n g + g n)
    rw [ih]
    simp only [Int32.sub_eq_add_neg, Int32.neg_add]
    ac_rfl
theorem sm_ext {n m : Nat} {f : Nat → Int32} (h : n ≤ m) (hz : ∀ i, n ≤ i → i < m → f i = 0) : sm m f = sm n f := by
  induction m with
  | zero => rw [Nat.le_zero.mp h]
  | succ m ih =>
    rcases Nat.lt_or_ge m n with q | q
    · rw [show n = m + 1 by omega]
    · show sm m f + f m = _
      rw [ih (by omega) (fun i h1 h2 => hz i h1 (by omega)), hz m q (by omega), Int32.add_zero]
theorem sm_swap {n m : Nat} {f : Nat → Nat → Int32} : sm n (fun i => sm m (fun j => f i j)) = sm m (fun j => sm n (fun i => f i j)) := by
  induction n with
  | zero => exact (sm_0 (fun _ _ => rfl)).symm
  | succ n ih =>
    show sm n (fun i => sm m (fun j => f i j)) + sm m (fun j => f n j) = _
    rw [ih, ← sm_add]
    rfl
