/-! both systems in one world: the calls that change something -/
section CH
variable {w0 w w1 w2 : Wd} {P Q : Nat → Prop} {S T : Nat → Int32}
theorem Kp.fr (h : Kp P w w1) (hP : ∀ q, 166 ≤ q → ¬ P q) : FR w w1 := fun q hq => ⟨h.I (hP q hq), h.L (hP q hq)⟩
theorem xl_kp {l : List Nat} (h : XL l w 67) (K : Kp P w w1) (h1 : ¬ P 67) (h2 : ¬ P 73) : XL l w1 67 := by
  obtain ⟨a1, a2, a3⟩ := h
  refine ⟨a1, by rw [K.I h1]; exact a2, fun j hj => ?_⟩
  show wI w1 73 j = _
  rw [K.I h2]
  exact a3 j hj
theorem xt_of {n : Nat} {b : Nat → Nat} (h : XT n b w) (e1 : wI w1 1 1 = wI w 1 1) (h2 : wI w1 2 = wI w 2) : XT n b w1 := by
  obtain ⟨a1, a2, a3⟩ := h
  refine ⟨a1, e1.trans a2, fun j hj => ?_⟩
  rw [h2]
  exact a3 j hj
theorem mt_of {n : Nat} {b : Nat → Nat} (h : MT n b w) (e1 : wI w1 166 2 = wI w 166 2) (h2 : wI w1 167 = wI w 167) : MT n b w1 := by
  obtain ⟨c1, c2⟩ := h
  refine ⟨e1.trans c1, fun j hj => ?_⟩
  rw [h2]
  exact c2 j hj
theorem wkx_kp {jd : Bool} {v : Nat → Int32} (h : WKX jd v w) (e : wI w1 60 = wI w 60) : WKX jd v w1 := by
  unfold WKX
  rw [e]
  exact h
theorem wkm_kp {jd : Bool} {v : Nat → Int32} (h : WKM jd v w) (e : wI w1 166 35 = wI w 166 35) (e2 : wI w1 179 = wI w 179) : WKM jd v w1 := by
  unfold WKM
  rw [e, e2]
  exact h
theorem Kp.both (h : Kp P w w1) (h2 : Kp Q w1 w2) : Kp (fun q => P q ∨ Q q) w w2 := (h.mono (fun _ h => Or.inl h)).trans (h2.mono (fun _ h => Or.inr h))
/-- the class's call, and the reference's, of an act on the rug -/
theorem SB.act (h : SB w0 w) {f : Nat → Int64} {us' : Nat → Nat → Int32} {n' : Nat} (hN : XN S f w) (hf : MN f w) (hD : DS S) (hX : XG T w1) (hU : XU us' n' w1) (K1 : Kp (fun q => undP q ∨ rugP q) w w1)
    (hS : wI w2 168 = T) (hM : MU us' n' w2) (hW : WU T us' n') (K2 : Kp (fun q => q = 166 ∨ q = 168 ∨ q = 173) w1 w2) (F2 : Fm (fun j => j = 23 ∨ j = 0 ∨ j = 44) w1 w2) (lo : ∀ j, j < 429 ∨ 10084 ≤ j → T j = S j) : SB w0 w2 := by
  obtain ⟨a1, a2, a3, a5, a6, a7, a8, a9, a10⟩ := h
  have K := K1.both K2
  have n : ∀ q, ¬ ((q = 0 ∨ 74 ≤ q ∧ q ≤ 121) ∨ (35 ≤ q ∧ q ≤ 42) ∨ q = 166 ∨ q = 168 ∨ q = 173) → ¬ ((undP q ∨ rugP q) ∨ (q = 166 ∨ q = 168 ∨ q = 173)) := fun q h => by unfold undP rugP; omega
  have F' : ∀ j, ¬ (j = 23 ∨ j = 0 ∨ j = 44) → wI w2 166 j = wI w 166 j := fun j hj => by rw [F2 j hj, K1.I (fun q => by unfold undP rugP at q; omega)]
  refine ⟨a1.k K (n _ (by omega)) (n _ (by omega)), a2.k2 K (n _ (by omega)), ⟨T, f, us', n', hX.kp K2 (fun q a b => by omega), ((hN.kp K (fun q a b => n _ (by omega))).cong (lo 2 (by omega)) (lo 3 (by omega)) (fun j a b => lo j (by omega))), hS, hf.kp K (n _ (by omega)), ?_, hU.kp K2 (fun q a => by unfold undP at a; omega), hM, hW⟩, a5.k K (fun q x => n _ (by omega)) (fun q x y => n _ (by omega)), a6.k K (by rw [K.I (n 1 (by omega))]) (n _ (by omega)) (F' 2 (by omega)) (n _ (by omega)), a7.k K (n _ (by omega)) (n _ (by omega)) (F' 35 (by omega)), a8.k K (n _ (by omega)) (n _ (by omega)) (n _ (by omega)) (F' 42 (by omega)), a9.k (by rw [K.I (n 1 (by omega))]) (F' 15 (by omega)), a10.k (K.I (n _ (by omega))) (K.I (n _ (by omega))) (K.I (n _ (by omega))) (K.I (n _ (by omega))) (K.I (n _ (by omega))) (F' 28 (by omega)) (F' 29 (by omega))⟩
  intro k l hk hl e
  rw [lo 5 (by omega)] at hk hl
  have h8 : ix (S 5) ≤ 8 := by
    obtain ⟨a, e5, h8⟩ := hX.1.2.2.2.2.1
    rw [lo 5 (by omega)] at e5
    rw [e5, ix_nI (by omega)]
    exact h8
  rw [lo _ (by omega), lo _ (by omega)] at e
  exact hD k l hk hl e
theorem WU.kep {us : Nat → Nat → Int32} {n : Nat} (h : WU S us n) (hn : n ≤ 6) (hW : WR S) (lo : ∀ j, j < 429 → T j = S j) : WU T (kepU us n S) (kepN n) := by
  intro m hm
  have key : ∀ U, WR U ∧ (∀ j, j < 429 → U j = S j) → WR U ∧ ∀ j, j < 429 → U j = T j := fun U q => ⟨q.1, fun j hj => (q.2 j hj).trans (lo j hj).symm⟩
  refine key _ ?_
  unfold kepN at hm
  unfold kepU
  by_cases q : n = 6
  · rw [if_pos q]
    rw [if_pos q] at hm
    by_cases q2 : m < 5
    · rw [if_pos q2]; exact h (m + 1) (by omega)
    · rw [if_neg q2]; exact ⟨hW, fun _ _ => rfl⟩
  · rw [if_neg q]
    rw [if_neg q] at hm
    by_cases q2 : m = n
    · rw [if_pos q2]; exact ⟨hW, fun _ _ => rfl⟩
    · rw [if_neg q2]; exact h m (by omega)
theorem sc_no {α : Type} {m1 m2 : Wd → Option (α × Wd)} {r : α} (h : SB w0 w) (e1 : m1 w = some (r, w)) (e2 : m2 w = some (r, sI w 166 0 0)) : ∃ r w1 w2, m1 w = some (r, w1) ∧ FR w w1 ∧ m2 w1 = some (r, w2) ∧ SB w0 w2 :=
  ⟨r, w, _, e1, (fun _ _ => ⟨rfl, rfl⟩), e2, h.z 0⟩
theorem k1m {w w1 : Wd} (K1 : Kp (fun q => undP q ∨ rugP q) w w1) {q : Nat} (h : 166 ≤ q) : wI w1 q = wI w q := K1.I (fun x => by unfold undP rugP at x; omega)
theorem c_goes (p q s : Int32) : SC w0 (fun w => sh_68 0 p q s w) (fun w => sh_223 166 p q s w) := by
  intro w h
  obtain ⟨S, f, us, n, a, b, c, d, e, x, y, z⟩ := h.gs
  by_cases ho : goOk S p q s = true
  · obtain ⟨p, k, s, rfl, rfl, rfl, hp, hk, hs⟩ := goOk_t ho
    obtain ⟨v1, w1, e1, hv1, g1, g2, K1⟩ := x_goes a x hp hk hs
    obtain ⟨v2, w2, e2, hv2, y1, y2, K2, F2⟩ := y_goes (w := w1) a.1 ((k1m K1 (by omega)).trans c) x.1 (y.of (by rw [k1m K1 (by omega)]) (k1m K1 (by omega))) hp hk hs
    have lo : ∀ j, j < 429 ∨ 10084 ≤ j → goesS S p k (S (13 + s)) j = S j := fun j hj => goes_low a.1 hp _ (by omega)
    refine ⟨v1, w1, w2, e1, K1.fr (fun q hq => by unfold undP rugP; omega), by rw [hv1, ← hv2]; exact e2, h.act b d e g1 g2 K1 y1 y2 (z.kep x.1 a.2.1 (fun j hj => lo j (Or.inl hj))) K2 (fun j hj => F2 j (by omega)) lo⟩
  · have ho' : goOk S p q s = false := by
      cases hh : goOk S p q s
      · rfl
      · exact absurd hh ho
    exact sc_no h (x_goes_no a ho') (y_goes_no a.1 c ho')
theorem c_days (p : Int32) : SC w0 (fun w => sh_81 0 p w) (fun w => sh_227 166 p w) := by
  intro w h
  obtain ⟨S, f, us, n, a, b, c, d, e, x, y, z⟩ := h.gs
  by_cases ho : dsOk S p 20
  · obtain ⟨m, dd, rfl, ed, h1, h20, hd⟩ := ho
    obtain ⟨v1, w1, e1, hv1, g1, g2, K1⟩ := x_days a x ed h1 h20 hd
    obtain ⟨v2, w2, e2, hv2, y1, y2, K2, F2⟩ := y_days (w := w1) a.1 ((k1m K1 (by omega)).trans c) x.1 (y.of (by rw [k1m K1 (by omega)]) (k1m K1 (by omega))) ed h1 h20 hd
    have lo : ∀ j, j < 429 ∨ 10084 ≤ j → dayN S m j = S j := fun j hj => dayN_lo (by omega)
    refine ⟨v1, w1, w2, e1, K1.fr (fun q hq => by unfold undP rugP; omega), by rw [hv1, ← hv2]; exact e2, h.act b d e g1 g2 K1 y1 y2 (z.kep x.1 a.2.1 (fun j hj => lo j (Or.inl hj))) K2 (fun j hj => F2 j (by omega)) lo⟩
  · exact sc_no h (x_days_no a ho) (y_days_no a.2.1 c ho)
theorem beaRow_lo {y x0 n : Nat} {s : (Nat → Int32) × Int32} (hy : y < 12) (hn : x0 + n ≤ 12) {j : Nat} (hj : j < 429 ∨ 10084 ≤ j) : (beaRow y x0 n s).1 j = s.1 j := by
  induction n with
  | zero => rfl
  | succ n ih =>
    rw [beaRow_s]
    show beaS _ _ j = _
    rw [bea_lo (by omega) (by omega), ih (by omega)]
theorem beaAll_lo {y0 x0 nx ny : Nat} {s : (Nat → Int32) × Int32} (hy : y0 + ny ≤ 12) (hn : x0 + nx ≤ 12) {j : Nat} (hj : j < 429 ∨ 10084 ≤ j) : (beaAll y0 x0 nx ny s).1 j = s.1 j := by
  induction ny with
  | zero => rfl
  | succ n ih =>
    rw [beaAll_s, beaRow_lo (by omega) hn hj, ih (by omega)]
theorem c_beat (p q : Int32) : SC w0 (fun w => sh_84 0 p q w) (fun w => sh_231 166 p q w) := by
  intro w h
  obtain ⟨S, f, us, n, a, b, c, d, e, x, y, z⟩ := h.gs
  by_cases ho : isT S p = true ∧ isT S q = true
  · obtain ⟨A, rfl, hA, oA⟩ := isT_t a.1 ho.1
    obtain ⟨B, rfl, hB, oB⟩ := isT_t a.1 ho.2
    obtain ⟨v1, w1, e1, hv1, g1, g2, K1⟩ := x_beat a x oA oB
    obtain ⟨v2, w2, e2, hv2, y1, y2, K2, F2⟩ := y_beat (w := w1) a.1 ((k1m K1 (by omega)).trans c) x.1 (y.of (by rw [k1m K1 (by omega)]) (k1m K1 (by omega))) oA oB
    have lo : ∀ j, j < 429 ∨ 10084 ≤ j → (beatR S A B).1 j = S j := fun j hj => by
      unfold beatR
      exact beaAll_lo (s := (S, 0)) (by omega) (by omega) hj
    refine ⟨v1, w1, w2, e1, K1.fr (fun q hq => by unfold undP rugP; omega), by rw [hv1, ← hv2]; exact e2, h.act b d e g1 g2 K1 y1 y2 (z.kep x.1 a.2.1 (fun j hj => lo j (Or.inl hj))) K2 (fun j hj => F2 j (by omega)) lo⟩
  · exact sc_no h (x_beat_no a ho) (y_beat_no c ho)
theorem yrWs_hi (hF : WF T) (hP : PW T) {x : Int32} {m j : Nat} (hj : 10084 ≤ j) : (yrWs m (T, x)).1 j = T j := by
  induction m with
  | zero => rfl
  | succ m ih =>
    have hl : ∀ j, j < 429 → (yrWs m (T, x)).1 j = T j := fun j hj => yrWs_lo hF hP (by omega)
    have hF' := hF.cong hl
    have hP' := hP.cong hl
    rw [yrWs_s]
    have e : (yrW ((yrWs m (T, x)).1, (yrWs m (T, x)).2)).1 j = (yrWs m (T, x)).1 j := goes_low hF' (drN_lt _ hP'.1 (by have := hP'.2.1; omega)) _ (Or.inr hj)
    rw [show ((yrWs m (T, x)).1, (yrWs m (T, x)).2) = yrWs m (T, x) from rfl] at e
    rw [e, ih]
theorem yrD_hi (hP : PW T) {x : Int32} {j : Nat} (hj : 10084 ≤ j) : (yrD (T, x)).1 j = T j := by
  unfold yrD
  split
  · show dayS _ j = _
    rw [day_lo (Or.inr (Or.inr hj))]
    exact bea_lo (yrt hP _ _) (by omega)
  · exact day_lo (Or.inr (Or.inr hj))
theorem yrN_hi (hF : WF S) (hP : PW S) {x : Int32} {d m : Nat} (ed : S 429 = nI d) (n : Nat) {j : Nat} (hj : 10084 ≤ j) : (yrN n m (S, x)).1 j = S j := by
  induction n with
  | zero => rfl
  | succ n ih =>
    have i1 := (yrN_lo hF hP (x := x) (m := m) ed n).1
    have hl : ∀ j, j < 429 → (yrWs m ((yrN n m (S, x)).1, (yrN n m (S, x)).2)).1 j = (yrN n m (S, x)).1 j := fun j hj => yrWs_lo (hF.cong i1) (hP.cong i1) (by omega)
    have h := yrD_hi (x := (yrWs m (yrN n m (S, x))).2) ((hP.cong i1).cong hl) hj
    have h2 := yrWs_hi (x := (yrN n m (S, x)).2) (m := m) (hF.cong i1) (hP.cong i1) hj
    rw [show ((yrN n m (S, x)).1, (yrN n m (S, x)).2) = yrN n m (S, x) from rfl] at h h2
    rw [show ((yrWs m (yrN n m (S, x))).1, (yrWs m (yrN n m (S, x))).2) = yrWs m (yrN n m (S, x)) from rfl] at h
    rw [yrN_s, h, h2, ih]
theorem c_years (p q s : Int32) : SC w0 (fun w => sh_90 0 p q s w) (fun w => sh_269 166 p q s w) := by
  intro w h
  obtain ⟨S, f, us, n, a, b, c, d, e, x, y, z⟩ := h.gs
  by_cases ho : yrOk S p q
  · obtain ⟨⟨m, dd, rfl, ed, h1, h60, hd⟩, ⟨k, rfl, k1, k9⟩, s2, s3⟩ := ho
    obtain ⟨v1, w1, e1, hv1, g1, g2, K1⟩ := x_years (x := s) a x ed h1 h60 hd k1 k9 s2 s3
    obtain ⟨v2, w2, e2, hv2, y1, y2, K2, F2⟩ := y_years (w := w1) (x := s) a.1 ((k1m K1 (by omega)).trans c) x.1 (y.of (by rw [k1m K1 (by omega)]) (k1m K1 (by omega))) ed h1 h60 hd k1 k9 s2 s3
    have hP := PW.of a.1 s2 s3
    have lo : ∀ j, j < 429 ∨ 10084 ≤ j → (yrN m k (S, s)).1 j = S j := fun j hj => by
      by_cases q : j < 429
      · exact (yrN_lo a.1 hP ed m).1 j q
      · exact yrN_hi a.1 hP ed m (by omega)
    refine ⟨v1, w1, w2, e1, K1.fr (fun q hq => by unfold undP rugP; omega), by rw [hv1, ← hv2]; exact e2, h.act b d e g1 g2 K1 y1 y2 (z.kep x.1 a.2.1 (fun j hj => lo j (Or.inl hj))) K2 (fun j hj => F2 j (by omega)) lo⟩
  · exact sc_no h (x_years_no a ho) (y_years_no a.2.1 c ho)
theorem c_undo : SC w0 (fun w => sh_94 0 w) (fun w => sh_222 166 w) := by
  intro w h
  obtain ⟨S, f, us, n, a, b, c, d, e, x, y, z⟩ := h.gs
  cases n with
  | zero => exact sc_no h (x_undo0 x) (y_undo0 y)
  | succ n =>
    obtain ⟨v1, w1, e1, hv1, g2, g3, K1'⟩ := x_undo x
    have K1 : Kp (fun q => undP q ∨ rugP q) w w1 := K1'.mono (fun q hq => by unfold undP rugP; omega)
    obtain ⟨v2, w2, e2, hv2, y2, y1, K2, F2⟩ := y_undo (w := w1) (n := n) (us := us) (by have := x.1; omega) ((k1m K1 (by omega)).trans c) (y.of (by rw [k1m K1 (by omega)]) (k1m K1 (by omega)))
    have lo : ∀ j, j < 429 ∨ 10084 ≤ j → undS S (us n) j = S j := fun j hj => by
      unfold undS
      exact if_neg (by omega)
    have hi : ∀ j, j < 10084 → undS S (us n) j = us n j := fun j hj => by
      unfold undS
      by_cases q : 429 ≤ j
      · exact if_pos ⟨q, hj⟩
      · rw [if_neg (by omega)]
        exact ((z n (by omega)).2 j (by omega)).symm
    obtain ⟨aF, aW, aR, o, eo, h7, hR⟩ := a
    have g1 : XG (undS S (us n)) w1 := by
      refine ⟨aF.cong (fun j hj => lo j (Or.inl hj)), (z n (by omega)).1.cong (fun j hj _ => hi j hj), g3.cong hi, o, by rw [K1.R]; exact eo, h7, ?_⟩
      exact (hR.kp K1' (fun q a b => by omega)).cong aF (fun j hj => lo j (Or.inl hj))
    refine ⟨v1, w1, w2, e1, K1.fr (fun q hq => by unfold undP rugP; omega), by rw [hv1, ← hv2]; exact e2, h.act b d e g1 g2 K1 y1 y2 (fun m hm => ?_) (K2.mono (fun q hq => by omega)) (fun j hj => F2 j (by omega)) lo⟩
    refine ⟨(z m (by omega)).1, fun j hj => ?_⟩
    rw [(z m (by omega)).2 j hj, lo j (Or.inl hj)]
theorem c_sign (x y z : Int32) : SC w0 (fun w => sh_121 0 x y z w) (fun w => sh_248 166 x y z w) ∧ SC w0 (fun w => sh_127 0 x y z w) (fun w => sh_252 166 x y z w) := by
  have key : ∀ (w : Wd) S, XG S w → wI w 168 = S → crOk S x y z → ∃ p f t W, x = nI p ∧ y = nI f ∧ z = nI t ∧ p < ix (S 2) ∧ frT S f ∧ frT S t ∧ S (7 + p) = nI W ∧ 1 ≤ W ∧ W ≤ 9 := by
    intro w S a c ho
    obtain ⟨h1, h2, h3⟩ := ho
    obtain ⟨p, rfl, -, hp⟩ := isK_t h1
    have fr : ∀ t, frB S t = true → ∃ k, t = nI k ∧ frT S k := by
      intro t ht
      unfold frB at ht
      rw [Bool.and_eq_true] at ht
      obtain ⟨k, rfl, hk, ok⟩ := isT_t a.1 ht.1
      refine ⟨k, rfl, ok, ?_⟩
      have hw := ht.2
      have hb := bi_wall a.1 hk
      rw [← hb]
      cases hh : isWl S (nI k)
      · rfl
      · rw [hh] at hw; exact absurd hw (by decide)
    obtain ⟨f, rfl, hf⟩ := fr y h2
    obtain ⟨t, rfl, ht⟩ := fr z h3
    obtain ⟨W, eW, w1, w9⟩ := (a.1.2.2.2.2.2.2.1 p hp).1
    exact ⟨p, f, t, W, rfl, rfl, rfl, hp, hf, ht, eW, w1, w9⟩
  have qu : ∀ {w w1 w2 : Wd}, SB w0 w → Kp (fun q => 64 ≤ q ∧ q ≤ 66) w w1 → Kp (fun q => q = 166 ∨ q = 178) w1 w2 → Fm (fun j => j = 0) w1 w2 → SB w0 w2 := fun h k1 k2 f => by
    refine h.quiet ((k1.both k2).mono (fun q hq => by unfold quP; omega)) (fun j hj => ?_)
    rw [f j hj, k1.I (by omega)]
  constructor
  · intro w h
    obtain ⟨S, f, us, n, a, b, c, d, e, -, -, -⟩ := h.gs
    by_cases ho : crOk S x y z
    · obtain ⟨p, f, t, W, rfl, rfl, rfl, hp, hf, ht, eW, w1, w9⟩ := key w S a c ho
      obtain ⟨v1, w1', e1, q, hq, hv1, K1⟩ := x_sign a hp hf ht eW
      obtain ⟨v2, w2, e2, hv2, K2, F2⟩ := y_sign (w := w1') a.1 ((K1.I (by omega)).trans c) hp hf ht eW w1 w9 hq
      exact ⟨v1, w1', w2, e1, K1.fr (fun q hq => by omega), by rw [hv1, ← hv2]; exact e2, qu h K1 K2 F2⟩
    · exact sc_no h (x_sign_no a ho).1 (y_sign_no a.1 c ho).1
  · intro w h
    obtain ⟨S, f, us, n, a, b, c, d, e, -, -, -⟩ := h.gs
    by_cases ho : crOk S x y z
    · obtain ⟨p, f, t, W, rfl, rfl, rfl, hp, hf, ht, eW, w1, w9⟩ := key w S a c ho
      obtain ⟨v1, w1', e1, q, hq, hv1, K1⟩ := x_steps a hp hf ht
      obtain ⟨v2, w2, e2, hv2, K2, F2⟩ := y_steps (w := w1') a.1 ((K1.I (by omega)).trans c) hp hf ht eW w1 w9 hq
      exact ⟨v1, w1', w2, e1, K1.fr (fun q hq => by omega), by rw [hv1, ← hv2]; exact e2, qu h K1 K2 F2⟩
    · exact sc_no h (x_sign_no a ho).2 (y_sign_no a.1 c ho).2
end CH
