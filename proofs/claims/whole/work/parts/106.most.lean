/-! the most ways on; the TUFTS that all need; the class's find -/
def fP (S : Nat → Int32) (op : Nat → Prop) (s e n : Nat) : Prop := ∃ f c, FLW S op s e f c n
noncomputable def mfN (S : Nat → Int32) (op : Nat → Prop) (s e : Nat) : Nat := @ite Nat (fP S op s e 4) (Classical.propDecidable _) 4 (@ite Nat (fP S op s e 3) (Classical.propDecidable _) 3 (@ite Nat (fP S op s e 2) (Classical.propDecidable _) 2 (@ite Nat (fP S op s e 1) (Classical.propDecidable _) 1 0)))
def outO (op : Nat → Prop) (x : Nat) : Nat → Prop := fun t => op t ∧ ¬ t = x
def rN (r : Nat → Nat → Prop) (st : Nat) : Nat → Nat → Prop
  | 0, x => x = st
  | k + 1, x => ∃ y, rN r st k y ∧ r y x ∧ x < 288
section MF
variable {S : Nat → Int32} {op : Nat → Prop} {s e : Nat} {f : Nat → Nat → Prop} {c : Nat → Prop} {w : Wd} {o h : Nat}
theorem fP0 : fP S op s e 0 := by
  refine ⟨fun _ _ => False, fun _ => False, fun _ _ z => absurd z id, fun t _ _ _ => ⟨?_, ?_⟩, ?_, ?_⟩
  · rw [zs_0 (fun _ _ => iv_f id), iv_f id]
  · rw [zs_0 (fun _ _ => iv_f id), iv_f id]
  · exact zs_0 (fun _ _ => iv_f id)
  · exact zs_0 (fun _ _ => iv_f id)
theorem mf_sp : fP S op s e (mfN S op s e) := by
  unfold mfN
  rcases Classical.em (fP S op s e 4) with q | q
  · rw [if_pos q]; exact q
  · rw [if_neg q]
    rcases Classical.em (fP S op s e 3) with q | q
    · rw [if_pos q]; exact q
    · rw [if_neg q]
      rcases Classical.em (fP S op s e 2) with q | q
      · rw [if_pos q]; exact q
      · rw [if_neg q]
        rcases Classical.em (fP S op s e 1) with q | q
        · rw [if_pos q]; exact q
        · rw [if_neg q]; exact fP0
theorem mf_le {n : Nat} (hn : fP S op s e n) : n ≤ mfN S op s e := by
  have h4 : n ≤ 4 := by
    obtain ⟨f, c, z⟩ := hn
    have := z.le4
    omega
  unfold mfN
  rcases Classical.em (fP S op s e 4) with q | q
  · rw [if_pos q]; omega
  · have n4 : ¬ n = 4 := fun z => q (z ▸ hn)
    rw [if_neg q]
    rcases Classical.em (fP S op s e 3) with q | q
    · rw [if_pos q]; omega
    · have n3 : ¬ n = 3 := fun z => q (z ▸ hn)
      rw [if_neg q]
      rcases Classical.em (fP S op s e 2) with q | q
      · rw [if_pos q]; omega
      · have n2 : ¬ n = 2 := fun z => q (z ▸ hn)
        rw [if_neg q]
        rcases Classical.em (fP S op s e 1) with q | q
        · rw [if_pos q]; omega
        · have n1 : ¬ n = 1 := fun z => q (z ▸ hn)
          rw [if_neg q]; omega
theorem mf_le4 : mfN S op s e ≤ 4 := by
  obtain ⟨f, c, z⟩ := mf_sp (S := S) (op := op) (s := s) (e := e)
  have := z.le4
  omega
/-- a flow that can't grow is one of the most -/
theorem mf_of {n : Nat} (hL : FLW S op s e f c n) (hs : s < 144) (he : e < 144) (hse : ¬ s = e) (hx : (∃ R, clsd S op s e f c R ∧ R (2 * s + 1) ∧ ¬ R (2 * e)) ∨ n = 4) : n = mfN S op s e := by
  have h1 := mf_le ⟨f, c, hL⟩
  rcases hx with ⟨R, hR, r1, r2⟩ | hx
  · obtain ⟨f', c', h'⟩ := mf_sp (S := S) (op := op) (s := s) (e := e)
    have := hL.max h' hs he hse hR r1 r2
    omega
  · have := mf_le4 (S := S) (op := op) (s := s) (e := e)
    omega
theorem rN_chain {r : Nat → Nat → Prop} {st : Nat} (k : Nat) : ∀ x, rN r st k x → (∀ j, j < k → ¬ rN r st j x) → ∃ que : Nat → Nat, que 0 = st ∧ que k = x ∧ (∀ i, i < k → r (que i) (que (i + 1))) ∧ ∀ i, i ≤ k → rN r st i (que i) ∧ ∀ j, j < i → ¬ rN r st j (que i) := by
  induction k with
  | zero =>
    intro x hx _
    exact ⟨fun _ => st, rfl, hx.symm, fun i hi => by omega, fun i hi => by
      have : i = 0 := by omega
      subst this
      exact ⟨rfl, fun j hj => by omega⟩⟩
  | succ k ih =>
    intro x hx hmin
    obtain ⟨y, hy, hr, hx8⟩ := hx
    obtain ⟨que, q0, qk, qr, qm⟩ := ih y hy (fun j hj z => hmin (j + 1) (by omega) ⟨y, z, hr, hx8⟩)
    refine ⟨upO que (k + 1) x, by rw [upO_o que x (by omega)]; exact q0, upO_s _ _ _, fun i hi => ?_, fun i hi => ?_⟩
    · by_cases z : i = k
      · subst z
        rw [upO_s, upO_o que x (by omega), qk]; exact hr
      · rw [upO_o que x (by omega), upO_o que x (by omega)]; exact qr i (by omega)
    · by_cases z : i = k + 1
      · subst z
        rw [upO_s]
        exact ⟨⟨y, hy, hr, hx8⟩, fun j hj => hmin j hj⟩
      · rw [upO_o que x z]; exact qm i (by omega)
/-- a flow of the most can't grow: what is come to holds the start alone -/
theorem mf_ex (hop : ∀ t, op t → t < 144) (hse : ¬ s = e) (hs : s < 144) (he : e < 144) : ∃ f c R, FLW S op s e f c (mfN S op s e) ∧ clsd S op s e f c R ∧ R (2 * s + 1) ∧ ¬ R (2 * e) := by
  obtain ⟨f0, c0, h0⟩ := mf_sp (S := S) (op := op) (s := s) (e := e)
  refine ⟨f0, c0, fun x => ∃ k, rN (rsx S op s e f0 c0) (2 * s + 1) k x, h0, clsd_of (rsx S op s e f0 c0) (fun x y z => Or.inl z) _ (fun x y _ hy z hr => by obtain ⟨k, hk⟩ := z; exact ⟨k + 1, x, hk, hr, hy⟩), ⟨0, rfl⟩, fun hR => ?_⟩
  obtain ⟨k0, hk0⟩ := hR
  obtain ⟨k, hk, hmin⟩ : ∃ k, rN (rsx S op s e f0 c0) (2 * s + 1) k (2 * e) ∧ ∀ j, j < k → ¬ rN (rsx S op s e f0 c0) (2 * s + 1) j (2 * e) := by
    have key : ∀ n, (∃ k, k < n ∧ rN (rsx S op s e f0 c0) (2 * s + 1) k (2 * e)) → ∃ k, rN (rsx S op s e f0 c0) (2 * s + 1) k (2 * e) ∧ ∀ j, j < k → ¬ rN (rsx S op s e f0 c0) (2 * s + 1) j (2 * e) := by
      intro n
      induction n with
      | zero => intro ⟨k, hk, _⟩; omega
      | succ n ih =>
        intro ⟨k, hk, hr⟩
        rcases Classical.em (∃ k, k < n ∧ rN (rsx S op s e f0 c0) (2 * s + 1) k (2 * e)) with q | q
        · exact ih q
        · have : k = n := by
            by_cases z : k < n
            · exact absurd ⟨k, z, hr⟩ q
            · omega
          subst this
          exact ⟨k, hr, fun j hj z => q ⟨j, hj, z⟩⟩
    exact key (k0 + 1) ⟨k0, by omega, hk0⟩
  obtain ⟨que, q0, qk, qr, qm⟩ := rN_chain k _ hk hmin
  have inj : ∀ a b, a < k + 1 → b < k + 1 → que a = que b → a = b := fun a b ha hb hab => by
    by_cases z : a < b
    · exact absurd (hab ▸ (qm a (by omega)).1) ((qm b (by omega)).2 a z)
    · by_cases z2 : b < a
      · exact absurd (hab.symm ▸ (qm b (by omega)).1) ((qm a (by omega)).2 b z2)
      · omega
  have no1 : ∀ i, i ≤ k → ¬ que i = 2 * e + 1 := fun i hi z => by
    cases i with
    | zero => rw [q0] at z; omega
    | succ i =>
      have hr := qr i (by omega)
      rw [z] at hr
      rcases hr with (⟨u, v, a1, a2, -⟩ | ⟨u, v, a1, a2, -, -, g⟩ | ⟨t, a1, a2, -, -, g, -⟩ | ⟨t, a1, a2, -⟩) | ⟨a1, a2⟩
      · omega
      · have : u = e := by omega
        subst this
        exact (h0.1 _ _ g).2.2.2.2 rfl
      · exact g (by omega)
      · omega
      · omega
  have walk : ∀ i, i ≤ k → ∃ f c, DEF S op s e (mfN S op s e) (que (k - i)) f c ∧ asW que (k - i) f f0 c c0 ∧ ¬ que (k - i) = 2 * s := by
    intro i
    induction i with
    | zero =>
      intro _
      rw [Nat.sub_zero]
      exact ⟨f0, c0, by rw [qk]; exact DEF.start h0, fun _ _ => ⟨fun _ _ _ => Iff.rfl, fun _ _ => Iff.rfl⟩, by rw [qk]; omega⟩
    | succ i ih =>
      intro hi
      obtain ⟨f, c, hD, hA, hn⟩ := ih (by omega)
      have hr := qr (k - (i + 1)) (by omega)
      rw [show k - (i + 1) + 1 = k - i by omega] at hr
      have hns : ¬ que (k - i) = 2 * s + 1 := fun z => by
        have := inj (k - i) 0 (by omega) (by omega) (by rw [z, q0])
        omega
      obtain ⟨f', c', -, hD', hA', hn'⟩ := step_back (m := k + 1) h0 hop (show k - i < k + 1 by omega) (show k - (i + 1) < k - i by omega) inj hr hD hA hn hns (no1 _ (by omega))
      exact ⟨f', c', hD', hA', hn'⟩
  obtain ⟨f, c, hD, -, -⟩ := walk k (Nat.le_refl _)
  rw [Nat.sub_self, q0] at hD
  have h1 : fP S op s e (mfN S op s e + 1) := ⟨f, c, by rw [Int.natCast_add]; exact hD.fin⟩
  have := mf_le h1
  omega
/-- a TUFT that all of the most ways on need -/
def need (S : Nat → Int32) (s e : Nat) (op : Nat → Prop) (x : Nat) : Prop := ¬ x = s ∧ ¬ x = e ∧ mfN S (outO op x) s e < mfN S op s e
theorem need_iff (hL : FLW S op s e f c (mfN S op s e)) (hop : ∀ t, op t → t < 144) (hse : ¬ s = e) (hs : s < 144) (he : e < 144) {x : Nat} (hx : x < 144) (x1 : ¬ x = s) (x2 : ¬ x = e) : ((c x ∧ ∃ R, clsd S op s e f c R ∧ R (2 * x) ∧ ¬ R (2 * x + 1)) ↔ mfN S (outO op x) s e < mfN S op s e) ∧ mfN S op s e ≤ mfN S (outO op x) s e + 1 := by
  obtain ⟨f', c', R', h', hR', r1, r2⟩ := mf_ex (S := S) (op := outO op x) (s := s) (e := e) (fun t z => hop t z.1) hse hs he
  obtain ⟨k1, k2⟩ := hL.need h' hs he hse hx x1 x2 hR' r1 r2
  refine ⟨⟨fun ⟨hc, R, hR, a, b⟩ => ?_, fun z => k2 (by omega)⟩, by omega⟩
  have := hL.less h' hs he hse hx x1 x2 hc hR a b
  omega
theorem need_op (hop : ∀ t, op t → t < 144) (hse : ¬ s = e) (hs : s < 144) (he : e < 144) {x : Nat} (hx : x < 144) (hn : need S s e op x) : op x := by
  obtain ⟨f, c, -, hL, -⟩ := mf_ex (S := S) (op := op) (s := s) (e := e) hop hse hs he
  have := ((need_iff hL hop hse hs he hx hn.1 hn.2.1).1.mpr hn.2.2).1
  exact hL.opc hx hn.1 hn.2.1 this
/-- the TUFTS laid, of those below T -/
noncomputable def layL (S : Nat → Int32) (s e : Nat) (op : Nat → Prop) : Nat → List Nat
  | 0 => []
  | T + 1 => @ite (List Nat) (need S s e (fun t => op t ∧ ¬ t ∈ layL S s e op T) T) (Classical.propDecidable _) (layL S s e op T ++ [T]) (layL S s e op T)
def opL (op : Nat → Prop) (l : List Nat) : Nat → Prop := fun t => op t ∧ ¬ t ∈ l
theorem lay_t {T : Nat} (hn : need S s e (opL op (layL S s e op T)) T) : layL S s e op (T + 1) = layL S s e op T ++ [T] := if_pos hn
theorem lay_f {T : Nat} (hn : ¬ need S s e (opL op (layL S s e op T)) T) : layL S s e op (T + 1) = layL S s e op T := if_neg hn
theorem opL_s (l : List Nat) (T : Nat) : opL op (l ++ [T]) = outO (opL op l) T := by
  funext t
  apply propext
  unfold opL outO
  rw [List.mem_append, List.mem_singleton]
  exact ⟨fun z => ⟨⟨z.1, fun y => z.2 (Or.inl y)⟩, fun y => z.2 (Or.inr y)⟩, fun z => ⟨z.1.1, fun y => by rcases y with y | y; exact z.1.2 y; exact z.2 y⟩⟩
/-- none left: none laid any more -/
theorem lay_end {T : Nat} (h0 : mfN S (opL op (layL S s e op T)) s e = 0) : ∀ k, layL S s e op (T + k) = layL S s e op T := by
  intro k
  induction k with
  | zero => rfl
  | succ k ih =>
    rw [← ih] at h0
    rw [show T + (k + 1) = (T + k) + 1 by omega, lay_f (fun z => by have := z.2.2; omega), ih]
/-- a search that does not come to the goal; one that does -/
theorem go_no {st gl : Nat} {v : Bool} {w' : Wd} (hst : st < 288) (hg : goR op e (rsx S op s e f c) st gl o w' v) (hv : v = false) (hgl : gl < 288) : ∃ R, clsd S op s e f c R ∧ R st ∧ ¬ R gl := by
  obtain ⟨came, que, m, hB, hA, hr⟩ := hg
  rcases hr with ⟨z, -⟩ | ⟨-, hno, hcl⟩
  · rw [hv] at z; cases z
  · refine ⟨fun x => (came x).isSome = true ∧ x < 288, clsd_of (rsx S op s e f c) (fun x y z => Or.inl z) _ (fun x y hx hy z hr => ⟨hcl x y hx hy z.1 hr, hy⟩), ⟨by rw [hB.2.2.2.2.1.2.2]; rfl, hst⟩, fun z => ?_⟩
    obtain ⟨j, hj, ej⟩ := hB.2.2.2.1 gl z.2 z.1
    exact hno j hj ej
theorem go_yes {st gl : Nat} {v : Bool} {w' : Wd} (hg : goR op e (rsx S op s e f c) st gl o w' v) (hv : v = true) (hst : st < 288) {R : Nat → Prop} (hR : clsd S op s e f c R) (hL : ∃ n : Int, FLW S op s e f c n) (hs : ¬ st / 2 = s) (hg2 : ¬ gl / 2 = s) (r1 : R st) : R gl := by
  obtain ⟨came, que, m, hB, hA, hr⟩ := hg
  obtain ⟨n, hL⟩ := hL
  rcases hr with ⟨-, i, hi, ei⟩ | ⟨z, -⟩
  · have key : ∀ i, i < m → que i = 2 * s ∨ R (que i) := by
      intro i
      induction i using Nat.strongRecOn with
      | ind i ih =>
        intro hi
        by_cases h0 : i = 0
        · subst h0
          right
          rw [hB.2.2.2.2.1.2.1]; exact r1
        · obtain ⟨j, hj, -, hr⟩ := hB.2.2.2.2.2 i (by omega) hi
          have hj8 := (hB.2.1 j (by omega)).1
          rcases ih j hj (by omega) with q | q
          · exfalso
            rw [q] at hr
            rcases hr with hr | hr
            · exact rsd_s hL hr
            · omega
          · rcases hr with (⟨u, v, a1, a2, g1, g2, g3, g4, g5, g6, g7, g8⟩ | ⟨u, v, a1, a2, g1, g2, g3⟩ | ⟨t, a1, a2, g1, g2, g3, g4, g5⟩ | ⟨t, a1, a2, g1, g2, g3, g4⟩) | ⟨a1, a2⟩
            · right; rw [a1] at q; rw [a2]; exact hR.1 u v g1 g2 g3 g4 g5 g6 g7 q g8
            · right; rw [a1] at q; rw [a2]; exact hR.2.1 u v g1 g2 g3 q
            · right; rw [a1] at q; rw [a2]; exact hR.2.2.1 t g1 g2 g3 g4 q g5
            · right; rw [a1] at q; rw [a2]; exact hR.2.2.2 t g1 g2 g3 g4 q
            · left; exact a2
    rcases key i hi with q | q
    · rw [ei] at q; omega
    · rw [ei] at q; exact q
  · rw [hv] at z; cases z
/-- the rugs laid, as the class holds them -/
def XL (l : List Nat) (w : Wd) (o : Nat) : Prop := l.length ≤ 4 ∧ wI w o 8 = nI l.length ∧ ∀ j, j < l.length → wI w (o + 6) j = nI (l.getD j 0)
theorem getD_app {l : List Nat} {x j : Nat} : (l ++ [x]).getD j 0 = if j < l.length then l.getD j 0 else if j = l.length then x else 0 := by
  induction l generalizing j with
  | nil =>
    cases j with
    | zero => rfl
    | succ j => rw [if_neg (by show ¬ j + 1 < 0; omega), if_neg (by show ¬ j + 1 = 0; omega)]; rfl
  | cons a l ih =>
    cases j with
    | zero => rw [if_pos (by show 0 < l.length + 1; omega)]; rfl
    | succ j =>
      show (l ++ [x]).getD j 0 = _
      rw [ih]
      by_cases q : j < l.length
      · rw [if_pos q, if_pos (by show j + 1 < l.length + 1; omega)]; rfl
      · rw [if_neg q, if_neg (show ¬ j + 1 < (a :: l).length from by show ¬ j + 1 < l.length + 1; omega)]
        by_cases q2 : j = l.length
        · rw [if_pos q2, if_pos (show j + 1 = (a :: l).length from by show j + 1 = l.length + 1; omega)]
        · rw [if_neg q2, if_neg (show ¬ j + 1 = (a :: l).length from by show ¬ j + 1 = l.length + 1; omega)]
theorem x_find0 (hF : WF S) (hR : HR S w h) (hh : h + 9 < o) {a b : Nat} (ha : onR S a) (hb : onR S b) (hw : S (25 + a) = 1 ∨ S (25 + b) = 1) : tp (sh_142 o h (nI a) (nI b) w) (fun v w' => v = 0 ∧ XL [] w' o ∧ Kp (fun q => o ≤ q ∧ q ≤ o + 6) w w') := by
  have ha8 := ha.lt hF
  have hb8 := hb.lt hF
  have hK : Kp (fun q => o ≤ q ∧ q ≤ o + 6) w (sI (sI (sI w o 0 (nI a)) o 1 (nI b)) o 8 0) := ((kp0 (P := fun q => o ≤ q ∧ q ≤ o + 6) (by omega)).trans (kp0 (by omega))).trans (kp0 (by omega))
  have hR' := hR.kp hK (fun q a b => by omega)
  have hwl : ∀ t, t < 144 → isWl S (nI t) = decide (S (25 + t) = 1) := fun t ht => by
    unfold isWl
    rw [decide_eq_true (n0le (by omega)), decide_eq_true (jl ht (by decide)), ix_nI (by omega)]; rfl
  have hX : XL [] (sI (sI (sI w o 0 (nI a)) o 1 (nI b)) o 8 0) o := ⟨by decide, wI_same, fun j hj => absurd hj (by show ¬ j < 0; omega)⟩
  unfold sh_142
  refine tp_stI (tp_stI (tp_stI (tp_ce (x_isWall hF hR' _) ?_)))
  rw [hwl a ha8]
  by_cases q : S (25 + a) = 1
  · exact tp_if (decide_eq_true q) (tp_some ⟨rfl, hX, hK⟩)
  · refine tp_ifn (by rw [decide_eq_false q]; decide) (tp_ce (x_isWall hF hR' _) ?_)
    rw [hwl b hb8]
    rcases hw with z | z
    · exact absurd z q
    · exact tp_if (decide_eq_true z) (tp_some ⟨rfl, hX, hK⟩)
theorem x_find (hF : WF S) (hR : HR S w h) (hh : h + 9 < o) (hs : frT S s) (he : frT S e) (hse : ¬ s = e) : tp (sh_142 o h (nI s) (nI e) w) (fun v w' => v = nI (layL S s e (frT S) 144).length ∧ XL (layL S s e (frT S) 144) w' o ∧ Kp (fun q => o ≤ q ∧ q ≤ o + 6) w w') := by
  have hs8 := hs.1.lt hF
  have he8 := he.1.lt hF
  have hwl : ∀ t, t < 144 → isWl S (nI t) = decide (S (25 + t) = 1) := fun t ht => by
    unfold isWl
    rw [decide_eq_true (n0le (by omega)), decide_eq_true (jl ht (by decide)), ix_nI (by omega)]; rfl
  unfold sh_142
  refine tp_stI (tp_stI (tp_stI ?_))
  obtain ⟨w0, ew0⟩ : ∃ w0, w0 = sI (sI (sI w o 0 (nI s)) o 1 (nI e)) o 8 0 := ⟨_, rfl⟩
  rw [← ew0]
  have hK0 : Kp (fun q => o ≤ q ∧ q ≤ o + 6) w w0 := by rw [ew0]; exact ((kp0 (P := fun q => o ≤ q ∧ q ≤ o + 6) (by omega)).trans (kp0 (by omega))).trans (kp0 (by omega))
  have f0 : wI w0 o 0 = nI s := by rw [ew0, wI_other (by decide), wI_other (by decide), wI_same]
  have f1 : wI w0 o 1 = nI e := by rw [ew0, wI_other (by decide), wI_same]
  have f8 : wI w0 o 8 = nI 0 := by rw [ew0, wI_same]; rfl
  clear ew0
  have hR0 := hR.kp hK0 (fun q a b => by omega)
  refine tp_ce (x_isWall hF hR0 _) (tp_ifn (by rw [hwl s hs8, hs.2]; decide) (tp_ce (x_isWall hF hR0 _) (tp_ifn (by rw [hwl e he8, he.2]; decide) ?_)))
  refine tp_it (fun j s' w' => s' = nI j ∧ j ≤ 144 ∧ (∀ t, t < j → wI w' (o + 1) t = S (25 + t)) ∧ Kp (fun q => q = o + 1) w0 w') 144 (by omega) ⟨rfl, Nat.zero_le _, fun t ht => by omega, Kp.refl⟩ (fun j s' w' hI => ?_)
  obtain ⟨es, hj, g1, gK⟩ := hI
  subst es
  refine tp_ite (fun hlt => ?_) (fun hlt => ?_)
  · have hj8 : j < 144 := (nlt_i (by omega) (by decide)).mp (show nI j < nI 144 from hlt)
    refine tp_ce (x_isWall hF (hR0.kp gK (fun q a b => by omega)) _) ?_
    rw [ix_nI (by omega), bi_wall hF hj8, nI_s]
    refine tp_gd (ib_nI hj8 (by decide)) (tp_stI (tp_lt (tp_on ⟨hj8, rfl, by omega, fun t ht => ?_, gK.sI rfl _ _⟩)))
    rw [wI_up]
    unfold up
    by_cases q : t = j
    · rw [if_pos q, q]
    · rw [if_neg q]; exact g1 t (by omega)
  · have hj8 : j = 144 := by
      by_cases q : j < 144
      · exact absurd (nlt q (by decide) : nI j < nI 144) hlt
      · omega
    subst hj8
    have hR1 := hR0.kp gK (fun q a b => by omega)
    have hsh1 : SHr S w' (o + 1) (frT S) := fun t ht => by
      rw [g1 t (ht.lt hF)]
      refine ⟨fun z => z.2, fun z => ?_⟩
      rcases hF.2.2.2.2.2.2.2.1 t (ht.lt hF) with q | q
      · exact absurd ⟨ht, q⟩ z
      · exact q
    refine tp_cl (x_fill hF hR1 hh (fun t z => z.1) hs he hse (by rw [gK.I (by omega)]; exact f0) (by rw [gK.I (by omega)]; exact f1) hsh1) (fun v w1 h1 => ?_)
    obtain ⟨n0, f, c, ev, hfil, hn4, hK1, hFo1⟩ := h1
    subst ev
    have em0 : n0 = mfN S (frT S) s e := mf_of hfil.1 hs8 he8 hse hfil.2.2.2
    rw [show (4 : Int32) = nI 4 from rfl]
    refine tp_ce (x_min _ (by omega) (by decide)) ?_
    rw [Nat.min_eq_left hn4]
    have hK01 : Kp (fun q => o ≤ q ∧ q ≤ o + 6) w w1 := (hK0.trans (gK.mono (fun q hq => by omega))).trans (hK1.mono (fun q hq => by omega))
    have opl0 : opL (frT S) [] = frT S := by
      funext t
      exact propext ⟨fun z => z.1, fun z => ⟨z, List.not_mem_nil⟩⟩
    have ofr : ∀ l t, opL (frT S) l t → onR S t := fun l t z => z.1.1
    have ofl : ∀ l t, opL (frT S) l t → t < 144 := fun l t z => z.1.1.lt hF
    refine tp_it (fun T s' w2 => s' = nI T ∧ T ≤ 144 ∧ ∃ n f c, FIL S (opL (frT S) (layL S s e (frT S) T)) s e w2 o n f c ∧ n = mfN S (opL (frT S) (layL S s e (frT S) T)) s e ∧ n + (layL S s e (frT S) T).length = n0 ∧ SHr S w2 (o + 1) (opL (frT S) (layL S s e (frT S) T)) ∧ XL (layL S s e (frT S) T) w2 o ∧ (∀ x, x ∈ layL S s e (frT S) T → x < T) ∧ ¬ s ∈ layL S s e (frT S) T ∧ ¬ e ∈ layL S s e (frT S) T ∧ wI w2 o 0 = nI s ∧ wI w2 o 1 = nI e ∧ Kp (fun q => o ≤ q ∧ q ≤ o + 6) w w2) 144 (by omega) ⟨rfl, Nat.zero_le _, n0, f, c, ?_, ?_, ?_, ?_, ?_, fun x hx => absurd hx List.not_mem_nil, List.not_mem_nil, List.not_mem_nil, ?_, ?_, hK01⟩ (fun T s' w2 hI => ?_)
    · show FIL S (opL (frT S) []) s e w1 o n0 f c
      rw [opl0]; exact hfil
    · show n0 = mfN S (opL (frT S) []) s e
      rw [opl0]; exact em0
    · show n0 + 0 = n0
      rfl
    · show SHr S w1 (o + 1) (opL (frT S) [])
      rw [opl0]; unfold SHr; rw [hK1.I (by omega)]; exact hsh1
    · exact ⟨by show 0 ≤ 4; omega, by rw [hFo1 8 (by decide), gK.I (by omega)]; exact f8, fun j hj => absurd hj (by show ¬ j < 0; omega)⟩
    · rw [hFo1 0 (by decide), gK.I (by omega)]; exact f0
    · rw [hFo1 1 (by decide), gK.I (by omega)]; exact f1
    obtain ⟨es, hT, n, f, c, hfil, en, hsum, hsh, hXL, hmem, hsl, hel, e0, e1, hK⟩ := hI
    subst es
    obtain ⟨l, el⟩ : ∃ l, l = layL S s e (frT S) T := ⟨_, rfl⟩
    rw [← el] at hfil en hsum hsh hXL hmem hsl hel
    have hlen := hXL.1
    have fin : (T = 144 ∨ n = 0) → tp (some ((.inr (.inr (wI w2 o 8)) : Int32 ⊕ (Int32 ⊕ Int32)), w2)) (lpQ (fun s' w2 => T < 144 ∧ s' = nI (T + 1) ∧ T + 1 ≤ 144 ∧ ∃ n f c, FIL S (opL (frT S) (layL S s e (frT S) (T + 1))) s e w2 o n f c ∧ n = mfN S (opL (frT S) (layL S s e (frT S) (T + 1))) s e ∧ n + (layL S s e (frT S) (T + 1)).length = n0 ∧ SHr S w2 (o + 1) (opL (frT S) (layL S s e (frT S) (T + 1))) ∧ XL (layL S s e (frT S) (T + 1)) w2 o ∧ (∀ x, x ∈ layL S s e (frT S) (T + 1) → x < T + 1) ∧ ¬ s ∈ layL S s e (frT S) (T + 1) ∧ ¬ e ∈ layL S s e (frT S) (T + 1) ∧ wI w2 o 0 = nI s ∧ wI w2 o 1 = nI e ∧ Kp (fun q => o ≤ q ∧ q ≤ o + 6) w w2) (lpQ (fun s' w' => 144 < 144 ∧ s' = nI (144 + 1) ∧ 144 + 1 ≤ 144 ∧ (∀ t, t < 144 + 1 → wI w' (o + 1) t = S (25 + t)) ∧ Kp (fun q => q = o + 1) w0 w') (fun v w' => v = nI (layL S s e (frT S) 144).length ∧ XL (layL S s e (frT S) 144) w' o ∧ Kp (fun q => o ≤ q ∧ q ≤ o + 6) w w'))) := by
      intro hz
      have e144 : layL S s e (frT S) 144 = l := by
        rcases hz with z | z
        · rw [el, z]
        · have := lay_end (S := S) (op := frT S) (s := s) (e := e) (T := T) (by rw [← el, ← en, z]) (144 - T)
          rw [show T + (144 - T) = 144 by omega] at this
          rw [this, el]
      refine tp_oout ⟨?_, ?_, hK⟩
      · rw [e144]; exact hXL.2.1
      · rw [e144]; exact hXL
    refine tp_ite (fun hlt => ?_) (fun hlt => ?_)
    · have hT8 : T < 144 := (nlt_i (by omega) (by decide)).mp (show nI T < nI 144 from hlt)
      rw [hXL.2.1]
      refine tp_ite (fun z => ?_) (fun z => ?_)
      · have hpos : 0 < n := by
          have := (nlt_i (by omega) (by omega)).mp z
          omega
        have hop := ofl l
        have hnd := fun x1 x2 => need_iff (x := T) (by rw [← en]; exact hfil.1) hop hse hs8 he8 hT8 x1 x2
        obtain ⟨hL, hfa, hca, hcl⟩ := hfil
        have hos : opL (frT S) l s := ⟨hs, hsl⟩
        have skip : ∀ w3 : Wd, Kp (lkP o) w2 w3 → Fo o 7 w2 w3 → ¬ need S s e (opL (frT S) l) T → tp (lt (nI T + 1 : Int32) (fun v5_28 => some ((.inl v5_28 : Int32 ⊕ (Int32 ⊕ Int32)), w3))) (lpQ (fun s' w2 => T < 144 ∧ s' = nI (T + 1) ∧ T + 1 ≤ 144 ∧ ∃ n f c, FIL S (opL (frT S) (layL S s e (frT S) (T + 1))) s e w2 o n f c ∧ n = mfN S (opL (frT S) (layL S s e (frT S) (T + 1))) s e ∧ n + (layL S s e (frT S) (T + 1)).length = n0 ∧ SHr S w2 (o + 1) (opL (frT S) (layL S s e (frT S) (T + 1))) ∧ XL (layL S s e (frT S) (T + 1)) w2 o ∧ (∀ x, x ∈ layL S s e (frT S) (T + 1) → x < T + 1) ∧ ¬ s ∈ layL S s e (frT S) (T + 1) ∧ ¬ e ∈ layL S s e (frT S) (T + 1) ∧ wI w2 o 0 = nI s ∧ wI w2 o 1 = nI e ∧ Kp (fun q => o ≤ q ∧ q ≤ o + 6) w w2) (lpQ (fun s' w' => 144 < 144 ∧ s' = nI (144 + 1) ∧ 144 + 1 ≤ 144 ∧ (∀ t, t < 144 + 1 → wI w' (o + 1) t = S (25 + t)) ∧ Kp (fun q => q = o + 1) w0 w') (fun v w' => v = nI (layL S s e (frT S) 144).length ∧ XL (layL S s e (frT S) 144) w' o ∧ Kp (fun q => o ≤ q ∧ q ≤ o + 6) w w'))) := by
          intro w3 hK3 hF3 hno
          have el2 : layL S s e (frT S) (T + 1) = l := by
            rw [el] at hno ⊢
            exact lay_f hno
          rw [nI_s, el2]
          refine tp_lt (tp_on ⟨hT8, rfl, by omega, n, f, c, ⟨hL, ?_, ?_, hcl⟩, en, hsum, ?_, ⟨hlen, ?_, ?_⟩, fun x hx => by have := hmem x hx; omega, hsl, hel, by rw [hF3 0 (by decide)]; exact e0, by rw [hF3 1 (by decide)]; exact e1, hK.trans (hK3.mono (fun q hq => by unfold lkP at hq; omega))⟩)
          · unfold FAr; rw [hK3.I (k := o + 3) (by unfold lkP; omega)]; exact hfa
          · unfold CAr; rw [hK3.I (k := o + 2) (by unfold lkP; omega)]; exact hca
          · unfold SHr; rw [hK3.I (k := o + 1) (by unfold lkP; omega)]; exact hsh
          · rw [hF3 8 (by decide)]; exact hXL.2.1
          · rw [hK3.I (k := o + 6) (by unfold lkP; omega)]; exact hXL.2.2
        rw [ix_nI (by omega), e0, e1]
        refine tp_gd (ib_nI hT8 (by decide)) (tp_ite (fun z1 => ?_) (fun z1 => ?_))
        · refine skip w2 Kp.refl (fun _ _ => rfl) (fun y => ?_)
          have hc := ((hnd y.1 y.2.1).1.mpr y.2.2).1
          rw [((hca T hT8).2 y.1 y.2.1).1 hc] at z1
          exact absurd z1 (by decide)
        · refine tp_ite (fun z2 => ?_) (fun z2 => ?_)
          · exact skip w2 Kp.refl (fun _ _ => rfl) (fun y => y.1 ((nI_eq (by omega) (by omega)).mp z2))
          · refine tp_ite (fun z3 => ?_) (fun z3 => ?_)
            · exact skip w2 Kp.refl (fun _ _ => rfl) (fun y => y.2.1 ((nI_eq (by omega) (by omega)).mp z3))
            · have x1 : ¬ T = s := fun y => z2 (by rw [y])
              have x2 : ¬ T = e := fun y => z3 (by rw [y])
              obtain ⟨hn1, hn2⟩ := hnd x1 x2
              have hc : c T := by
                rcases Classical.em (c T) with y | y
                · exact y
                · exact absurd (((hca T hT8).2 x1 x2).2 y) z1
              have hoT := hL.opc hT8 x1 x2 hc
              have hR2 : HR S w2 h := hR.kp hK (fun q a b => by omega)
              have hg := x_canGo (st := 2 * T) (gl := 2 * T + 1) hF hR2 hh hL (ofr l) hos hse e0 hfa hca hsh (by omega) (by omega) ⟨by rw [show 2 * T / 2 = T by omega]; exact hoT, by omega⟩
              have hg2 : tp (sh_144 o h (2 * nI T) ((2 * nI T) + 1) w2) (fun v w' => goR (opL (frT S) l) e (rsx S (opL (frT S) l) s e f c) (2 * T) (2 * T + 1) o w' v ∧ Kp (lkP o) w2 w' ∧ Fo o 7 w2 w') := by
                rw [l2, l1, nI_m, nI_p]; exact hg
              refine tp_cl hg2 (fun v w3 h3 => ?_)
              obtain ⟨hgo, hK3, hF3⟩ := h3
              refine tp_ite (fun hv => ?_) (fun hv => ?_)
              · refine skip w3 hK3 hF3 (fun y => ?_)
                obtain ⟨-, R, hR, a, b⟩ := hn1.mpr y.2.2
                exact b (go_yes hgo hv (by omega) hR ⟨_, hL⟩ (by omega) (by omega) a)
              · have hv' : v = false := by simpa using hv
                obtain ⟨R, hRc, ra, rb⟩ := go_no (by omega) hgo hv' (by omega)
                have hneed : need S s e (opL (frT S) l) T := ⟨x1, x2, hn1.mp ⟨hc, R, hRc, ra, rb⟩⟩
                have el2 : layL S s e (frT S) (T + 1) = l ++ [T] := by
                  rw [el] at hneed ⊢
                  exact lay_t hneed
                have eop := opL_s (op := frT S) l T
                have hl4 : l.length < 4 := by omega
                have e8 : wI w3 o 8 = nI l.length := by rw [hF3 8 (by decide)]; exact hXL.2.1
                rw [e8, ix_nI (by omega)]
                refine tp_gd (ib_nI hl4 (by decide)) (tp_stI ?_)
                rw [wI_row (show ¬ o = o + 6 by omega), e8, nI_s]
                refine tp_stI (tp_gd (ib_nI hT8 (by decide)) (tp_stI ?_))
                obtain ⟨w4, ew4⟩ : ∃ w4, w4 = sI (sI (sI w3 (o + 6) l.length (nI T)) o 8 (nI (l.length + 1))) (o + 1) T 1 := ⟨_, rfl⟩
                rw [← ew4]
                have hK4 : Kp (fun q => o ≤ q ∧ q ≤ o + 6) w w4 := by
                  rw [ew4]
                  exact ((((hK.trans (hK3.mono (fun q hq => by unfold lkP at hq; omega))).sI (by omega) _ _).sI (by omega) _ _).sI (by omega) _ _)
                have q0 : wI w4 o 0 = nI s := by rw [ew4, wI_row (by omega), wI_other (by decide), wI_row (by omega), hF3 0 (by decide)]; exact e0
                have q1 : wI w4 o 1 = nI e := by rw [ew4, wI_row (by omega), wI_other (by decide), wI_row (by omega), hF3 1 (by decide)]; exact e1
                have q8 : wI w4 o 8 = nI (l.length + 1) := by rw [ew4, wI_row (by omega), wI_same]
                have q6 : ∀ j, j < l.length + 1 → wI w4 (o + 6) j = nI ((l ++ [T]).getD j 0) := fun j hj => by
                  rw [ew4, wI_row (by omega), wI_row (by omega), wI_up, getD_app]
                  unfold up
                  by_cases y : j = l.length
                  · rw [if_pos y, if_neg (by omega), if_pos y]
                  · rw [if_neg y, if_pos (by omega), hK3.I (k := o + 6) (by unfold lkP; omega)]
                    exact hXL.2.2 j (by omega)
                have qsh : SHr S w4 (o + 1) (opL (frT S) (l ++ [T])) := fun t ht => by
                  rw [ew4, wI_up, wI_row (by omega), wI_row (by omega), hK3.I (k := o + 1) (by unfold lkP; omega), eop]
                  unfold up outO
                  by_cases y : t = T
                  · rw [if_pos y]
                    exact ⟨fun z => absurd y z.2, fun _ => rfl⟩
                  · rw [if_neg y]
                    obtain ⟨a, b⟩ := hsh t ht
                    exact ⟨fun z => a z.1, fun z => b (fun x => z ⟨x, y⟩)⟩
                have hos2 : opL (frT S) (l ++ [T]) s := by rw [eop]; exact ⟨hos, fun y => x1 y.symm⟩
                have hoe2 : opL (frT S) (l ++ [T]) e := by rw [eop]; exact ⟨⟨he, hel⟩, fun y => x2 y.symm⟩
                refine tp_cl (x_fill hF (hR.kp hK4 (fun q a b => by omega)) hh (ofr (l ++ [T])) hos2 hoe2 hse q0 q1 qsh) (fun v5 w5 h5 => ?_)
                obtain ⟨n5, f5, c5, ev5, hfil5, hn54, hK5, hF5⟩ := h5
                have em5 : n5 = mfN S (opL (frT S) (l ++ [T])) s e := mf_of hfil5.1 hs8 he8 hse hfil5.2.2.2
                have em6 := em5
                rw [eop] at em6
                have hlt5 := hneed.2.2
                rw [nI_s, el2]
                refine tp_lt (tp_on ⟨hT8, rfl, by omega, n5, f5, c5, hfil5, em5, ?_, ?_, ⟨?_, ?_, ?_⟩, fun x hx => ?_, hos2.2, hoe2.2, ?_, ?_, hK4.trans (hK5.mono (fun q hq => by omega))⟩)
                · rw [List.length_append, List.length_singleton]; omega
                · unfold SHr; rw [hK5.I (by omega)]; exact qsh
                · rw [List.length_append, List.length_singleton]; omega
                · rw [hF5 8 (by decide), List.length_append, List.length_singleton]; exact q8
                · rw [hK5.I (by omega), List.length_append, List.length_singleton]; exact q6
                · rcases List.mem_append.mp hx with y | y
                  · have := hmem x y; omega
                  · have := List.mem_singleton.mp y; omega
                · rw [hF5 0 (by decide)]; exact q0
                · rw [hF5 1 (by decide)]; exact q1
      · have hn0 : n = 0 := by
          by_cases q : l.length < n0
          · exact absurd (nlt q (by omega)) z
          · omega
        rw [← hXL.2.1]
        exact fin (Or.inr hn0)
    · have hT8 : T = 144 := by
        by_cases q : T < 144
        · exact absurd (nlt q (by decide) : nI T < nI 144) hlt
        · omega
      exact fin (Or.inl hT8)
end MF
