/-! what a world says of a heap -/
section ZS
variable (dC : Nat → ClassId) (dI : Nat → Nat → Nat) (dA : Nat → ClassId) (B L : Nat) (xs : Nat → Int32) (sa : Nat → Nat)
def zad (k : Nat) : Nat := if k < 1000 then B + k else sa (k - 1000)
def ztr (v : Value) : Value := match v with
  | .ref k => .ref (zad B sa k)
  | .int x => .int x
  | .long x => .long x
  | .float x => .float x
  | .double x => .double x
  | .null => .null
  | .retAddr x => .retAddr x
def zcell (w : Wd) (k : Nat) : va_E :=
  if (zsh k).1 < 100 then .inr ((zsh k).1, (List.range (zsh k).2).map (fun j => ztr B sa (zfv (zFk (zsh k).1 j) w k j)))
  else if (zsh k).1 = 102 then .inl (dA 102, (zsh k).2, .inr (.inl (wL w k)))
  else if (zsh k).1 < 110 then .inl (dA (zsh k).1, (zsh k).2, .inl (wI w k))
  else .inl (dA (zsh k).1, (zsh k).2, .inr (.inr (.inr (.inr (fun j => (wR w k j).map (zad B sa))))))
def zws (w : Wd) : va_W := (List.range (wn w)).map fun k => (B + k, zcell dA B sa w k)
def zA : Nat → Prop := fun q => B ≤ q
def ztys : List (ClassId × FieldType) := [(dA 101, .int), (dA 102, .long), (dA 103, .byte), (dA 104, .boolean), (dA 111, .object "RugReader$House"), (dA 115, .object "RugReader$Rug"), (dA 116, .object "RugReader$Sentence")]
/-- the cells that nobody writes: the enum's, the script -/
def zStat (U : State) (H : Heap) : Prop :=
  va_Z "RugReader" "WORDS" "[LRugReader$Word;" (.ref (sa 1)) (zA B) U H ∧
  va_T (.object "RugReader$Word") (sa 1) 20 (fun j => .ref (sa (10 + j))) (zA B) U H ∧
  (∀ i, i < 20 → va_Z "RugReader$Word" (zwnm i) "LRugReader$Word;" (.ref (sa (10 + i))) (zA B) U H) ∧
  va_Ef 20 "RugReader$Word" "code" "J" (fun i => .long (zwc i)) (fun i => sa (10 + i)) (zA B) U H ∧
  va_Ef 20 "RugReader$Word" "dir" "I" (fun i => .int (zwd i)) (fun i => sa (10 + i)) (zA B) U H ∧
  va_Ef 20 "RugReader$Word" "measured" "I" (fun i => .int (zwm i)) (fun i => sa (10 + i)) (zA B) U H ∧
  va_T .int (sa 0) L (fun j => .int (xs j)) (zA B) U H ∧ (∀ i j, i < 20 → j < 20 → sa (10 + i) = sa (10 + j) → i = j)
def zNs (U : State) : Prop := (∀ w ∈ zNest, va_Nw w U) ∧ (∀ w ∈ zNestF, va_Nw w U) ∧ va_AO "RugReader$House" U ∧ va_AO "RugReader$Rug" U ∧ va_AO "RugReader$Sentence" U
def zScr (w : Wd) : Prop := (∀ j, wI w 1000 j = xs j) ∧ wI w 1003 0 = Int32.ofNat L ∧ L < 2147483648
def zHp (w : Wd) (H : Heap) : Prop := va_P (dC, dI) zcl (zws dA B sa w) H ∧ wn w ≤ zK
def zG (w : Wd) (U : State) : Prop := zHp dC dI dA B sa w U.heap ∧ va_K (dC, dI) zcl (ztys dA) U ∧ zStat B L xs sa U U.heap ∧ zNs U ∧ zScr L xs w ∧ B + wn w ≤ U.heap.size ∧ (wn w < zK → U.heap.size ≤ B + wn w)
end ZS
section ZS2
variable {dC : Nat → ClassId} {dI : Nat → Nat → Nat} {dA : Nat → ClassId} {B L : Nat} {xs : Nat → Int32} {sa : Nat → Nat}
theorem zws_get {w : Wd} {k : Nat} (h : k < wn w) : (zws dA B sa w)[k]? = some (B + k, zcell dA B sa w k) := by
  unfold zws
  rw [List.getElem?_map, List.getElem?_range h]; rfl
theorem zws_len (w : Wd) : (zws dA B sa w).length = wn w := by unfold zws; simp
theorem zD (w : Wd) : va_D (zA B) (zws dA B sa w) := by
  have key : ∀ (i : Nat) (q : Nat × va_E), (zws dA B sa w)[i]? = some q → q.1 = B + i := by
    intro i q h
    have hi : i < wn w := by have := (List.getElem?_eq_some_iff.mp h).1; rwa [zws_len] at this
    rw [zws_get hi] at h
    cases h; rfl
  refine ⟨fun i j p q h1 h2 e => ?_, fun k q h => ?_⟩
  · have e1 := key i p h1
    have e2 := key j q h2
    omega
  · have e1 := key k q h
    show B ≤ q.1
    omega
theorem zcell_congr {w w' : Wd} {k : Nat} (h1 : wI w' k = wI w k) (h2 : wL w' k = wL w k) (h3 : wR w' k = wR w k) : zcell dA B sa w' k = zcell dA B sa w k := by
  have hf : ∀ (kd j : Nat), zfv kd w' k j = zfv kd w k j := fun kd j => by
    unfold zfv
    split
    · rw [h1]
    · rw [h2]
    · rw [h3]
  unfold zcell
  simp only [hf, h1, h2, h3]
theorem zws_set {w w' : Wd} {k : Nat} (hn : wn w' = wn w) (hk : k < wn w) (ho : ∀ i, i ≠ k → wI w' i = wI w i ∧ wL w' i = wL w i ∧ wR w' i = wR w i) : (zws dA B sa w).set k (B + k, zcell dA B sa w' k) = zws dA B sa w' := by
  apply List.ext_getElem?
  intro i
  by_cases hi : i < wn w
  · rw [zws_get (w := w') (by rw [hn]; exact hi), List.getElem?_set]
    by_cases e : k = i
    · subst e
      rw [if_pos rfl, if_pos (by rw [zws_len]; exact hk)]
    · rw [if_neg e, zws_get hi]
      obtain ⟨g1, g2, g3⟩ := ho i (fun q => e q.symm)
      rw [zcell_congr g1 g2 g3]
  · rw [List.getElem?_eq_none (by rw [List.length_set, zws_len]; omega), List.getElem?_eq_none (by rw [zws_len, hn]; omega)]
theorem zsh_obj : ∀ k, k < 192 → (zsh k).1 < 11 → (zsh k).2 = zN (zsh k).1 := by decide +kernel
theorem zsh_kind : ∀ k, k < 192 → ((zsh k).1 < 11 ∨ (zsh k).1 = 101 ∨ (zsh k).1 = 102 ∨ (zsh k).1 = 103 ∨ (zsh k).1 = 104 ∨ (zsh k).1 = 111 ∨ (zsh k).1 = 115 ∨ (zsh k).1 = 116) ∧ (zsh k).2 < 100000 := by decide +kernel
theorem zobj_iff {w : Wd} {o c : Nat} (h : zobj w o c = true) : o < wn w ∧ (zsh o).1 = c := by
  unfold zobj at h
  rw [Bool.and_eq_true] at h
  exact ⟨by simpa [Nat.blt_eq] using h.1, Nat.eq_of_beq_eq_true h.2⟩
theorem zcell_obj {w : Wd} {k c : Nat} (hk : k < 192) (h : (zsh k).1 = c) (hc : c < 11) : zcell dA B sa w k = .inr (c, (List.range (zN c)).map (fun j => ztr B sa (zfv (zFk c j) w k j))) := by
  unfold zcell
  rw [if_pos (by omega), zsh_obj k hk (by omega), h]
theorem zcell_long {w : Wd} {k : Nat} (h : (zsh k).1 = 102) : zcell dA B sa w k = .inl (dA 102, (zsh k).2, .inr (.inl (wL w k))) := by
  unfold zcell
  rw [if_neg (by omega), if_pos h]
theorem zcell_int {w : Wd} {k t : Nat} (h : (zsh k).1 = t) (ht : t = 101 ∨ t = 103 ∨ t = 104) : zcell dA B sa w k = .inl (dA t, (zsh k).2, .inl (wI w k)) := by
  unfold zcell
  rw [if_neg (by omega), if_neg (by omega), if_pos (by omega), h]
theorem zcell_ref {w : Wd} {k t : Nat} (h : (zsh k).1 = t) (ht : 110 ≤ t) : zcell dA B sa w k = .inl (dA t, (zsh k).2, .inr (.inr (.inr (.inr (fun j => (wR w k j).map (zad B sa)))))) := by
  unfold zcell
  rw [if_neg (by omega), if_neg (by omega), if_neg (by omega), h]
theorem zfld_set {w w' : Wd} {k c j : Nat} {v : Value} (hk : k < 192) (h : (zsh k).1 = c) (hc : c < 11) (hv : ztr B sa (zfv (zFk c j) w' k j) = v) (ho : ∀ i, i ≠ j → ztr B sa (zfv (zFk c i) w' k i) = ztr B sa (zfv (zFk c i) w k i)) :
    zcell dA B sa w' k = .inr (c, ((List.range (zN c)).map (fun i => ztr B sa (zfv (zFk c i) w k i))).set j v) := by
  rw [zcell_obj hk h hc]
  congr 2
  apply List.ext_getElem?
  intro i
  rw [List.getElem?_map, List.getElem?_set, List.getElem?_map, List.length_map, List.length_range]
  by_cases hi : i < zN c
  · rw [List.getElem?_range hi]
    by_cases e : j = i
    · subst e
      rw [if_pos rfl, if_pos hi, Option.map_some, hv]
    · rw [if_neg e, Option.map_some, Option.map_some, ho i (fun q => e q.symm)]
  · rw [List.getElem?_eq_none (by rw [List.length_range]; omega)]
    by_cases e : j = i
    · subst e
      rw [if_pos rfl, if_neg hi]; rfl
    · rw [if_neg e]; rfl
theorem zcl_get {c : Nat} (hc : c < 11) : zcl[c]? = some (zC c, zT c, zN c) := by
  unfold zcl
  rw [List.getElem?_map, List.getElem?_range hc]; rfl
theorem ztr_cat (v : Value) : (ztr B sa v).category = v.category := by cases v <;> rfl
theorem ztr_sum (st : List Value) : ((st.map (ztr B sa)).map fun v => v.category).sum = (st.map fun v => v.category).sum := by
  rw [List.map_map]
  congr 1
  apply List.map_congr_left
  intro v _
  exact ztr_cat v
theorem ztr_rf (o : Option Nat) : ztr B sa (va_rf o) = va_rf (o.map (zad B sa)) := by cases o <;> rfl
theorem zad_own {k : Nat} (h : k < 192) : zad B sa k = B + k := by unfold zad; rw [if_pos (by omega)]
/-- locals, translated -/
def zlv (B : Nat) (sa : Nat → Nat) (lv : List (Nat × Value)) : List (Nat × Value) := lv.map fun q => (q.1, ztr B sa q.2)
theorem zlv_args (vs : List Value) : ∀ i, lv_args i (vs.map (ztr B sa)) = zlv B sa (lv_args i vs) := by
  induction vs with
  | nil => intro i; rfl
  | cons v vs ih =>
    intro i
    show (i, ztr B sa v) :: lv_args (if (ztr B sa v).category = 2 then i + 2 else i + 1) (vs.map (ztr B sa)) = _
    rw [ztr_cat, ih]
    rfl
theorem zlv_at {ls : Array Slot} {n : Nat} {lv : List (Nat × Value)} (h : lv_has ls n (zlv B sa lv)) {i : Nat} {v : Value} (hv : lgt lv i = some v) : ls[i]? = some (.val (ztr B sa v)) := by
  have hm : (i, v) ∈ lv := by
    induction lv with
    | nil => cases hv
    | cons q lv ih =>
      unfold lgt at hv
      cases hb : Nat.beq q.1 i with
      | true =>
        rw [hb] at hv
        have : q.2 = v := Option.some.inj hv
        have h2 := Nat.eq_of_beq_eq_true hb
        rw [← this, ← h2]
        exact List.mem_cons_self
      | false =>
        rw [hb] at hv
        exact List.mem_cons_of_mem _ (ih ⟨h.1, h.2.1, fun q hq => h.2.2 q (List.mem_cons_of_mem _ hq)⟩ hv)
  exact h.2.2 (i, ztr B sa v) (List.mem_map.mpr ⟨(i, v), hm, rfl⟩)
theorem zlv_mem {lv : List (Nat × Value)} {i : Nat} {v : Value} (hv : lgt lv i = some v) : ∃ k : Nat, (zlv B sa lv)[k]? = some (i, ztr B sa v) := by
  induction lv with
  | nil => cases hv
  | cons q lv ih =>
    unfold lgt at hv
    cases hb : Nat.beq q.1 i with
    | true =>
      rw [hb] at hv
      have h1 : q.2 = v := Option.some.inj hv
      have h2 := Nat.eq_of_beq_eq_true hb
      exact ⟨0, by rw [← h1, ← h2]; rfl⟩
    | false =>
      rw [hb] at hv
      obtain ⟨k, hk⟩ := ih hv
      exact ⟨k + 1, hk⟩
theorem zlv_filter (lv : List (Nat × Value)) (f : Nat → Nat → Bool) : (zlv B sa lv).filter (fun q => f q.1 q.2.category) = zlv B sa (lv.filter (fun q => f q.1 q.2.category)) := by
  induction lv with
  | nil => rfl
  | cons q lv ih =>
    have e : zlv B sa (q :: lv) = (q.1, ztr B sa q.2) :: zlv B sa lv := rfl
    rw [e, List.filter_cons, List.filter_cons, ih]
    simp only [ztr_cat]
    split <;> rfl
theorem zlv_lst1 (lv : List (Nat × Value)) (i : Nat) (v : Value) : (i, ztr B sa v) :: (zlv B sa lv).filter (fun q => !(q.1 == i) && !(q.1 + 1 == i && q.2.category == 2)) = zlv B sa (lst1 lv i v) := by
  rw [zlv_filter lv (fun a b => !(a == i) && !(a + 1 == i && b == 2))]; rfl
theorem zlv_lst2 (lv : List (Nat × Value)) (i : Nat) (v : Value) : (i, ztr B sa v) :: (zlv B sa lv).filter (fun q => !(q.1 == i) && (!(q.1 == i + 1) && !(q.1 + 1 == i && q.2.category == 2))) = zlv B sa (lst2 lv i v) := by
  rw [zlv_filter lv (fun a b => !(a == i) && (!(a == i + 1) && !(a + 1 == i && b == 2)))]; rfl
theorem zlv_sub {ls : Array Slot} {n : Nat} {lv lv' : List (Nat × Value)} (h : lv_has ls n (zlv B sa lv)) (hs : ∀ q ∈ lv', q ∈ lv) : lv_has ls n (zlv B sa lv') := by
  refine ⟨h.1, h.2.1, fun q hq => ?_⟩
  obtain ⟨q', hq', rfl⟩ := List.mem_map.mp hq
  exact h.2.2 _ (List.mem_map.mpr ⟨q', hs q' hq', rfl⟩)
end ZS2
