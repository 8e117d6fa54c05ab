/-! the tape told; what may be said, the reference (bt to bp_b: out of the kit's laws) -/
def bt (x : Int32) (i : Nat) : Bool := x.toBitVec.getLsbD i
theorem b_ext {x y : Int32} (h : ∀ i, i < 32 → bt x i = bt y i) : x = y := Int32.toBitVec_inj.mp (BitVec.eq_of_getLsbD_eq (fun i hi => h i hi))
theorem b_and (x y : Int32) (i : Nat) : bt (x &&& y) i = (bt x i && bt y i) := by unfold bt; rw [Int32.toBitVec_and, BitVec.getLsbD_and]
theorem b_big {x : Int32} {i : Nat} (h : 32 ≤ i) : bt x i = false := BitVec.getLsbD_of_ge _ _ h
theorem b_255 (i : Nat) : bt 255 i = decide (i < 8) := by
  rcases Nat.lt_or_ge i 32 with h | h
  · exact (by decide +kernel : ∀ i, i < 32 → bt 255 i = decide (i < 8)) i h
  · rw [b_big h, decide_eq_false (by omega)]
theorem s_l : ∀ n, n < 32 → ((nI n &&& 31).toBitVec.smod 32).toNat = n := by decide +kernel
theorem s_u : ∀ n, n < 32 → (((nI n).toUInt32 &&& Int32.toUInt32 31).toBitVec % 32).toNat = n := by decide +kernel
theorem b_ushr (n : Nat) (hn : n < 32) (x : Int32) (i : Nat) : bt ((x.toUInt32 >>> ((nI n).toUInt32 &&& Int32.toUInt32 31)).toInt32) i = bt x (n + i) := by
  show (x.toUInt32 >>> ((nI n).toUInt32 &&& Int32.toUInt32 31)).toBitVec.getLsbD i = x.toUInt32.toBitVec.getLsbD (n + i)
  rw [UInt32.toBitVec_shiftRight]
  show (x.toUInt32.toBitVec >>> (((nI n).toUInt32 &&& Int32.toUInt32 31).toBitVec % 32).toNat).getLsbD i = _
  rw [s_u n hn, BitVec.getLsbD_ushiftRight]
theorem b_sshr (n : Nat) (hn : n < 32) (x : Int32) {i : Nat} (hi : i < 32) : bt (x >>> (nI n &&& 31)) i = if n + i < 32 then bt x (n + i) else bt x 31 := by
  unfold bt
  rw [Int32.toBitVec_shiftRight]
  show (x.toBitVec.sshiftRight ((nI n &&& 31).toBitVec.smod 32).toNat).getLsbD i = _
  rw [s_l n hn, BitVec.getLsbD_sshiftRight, BitVec.msb_eq_getLsbD_last]
  simp [hi]
theorem bp_b (x : Int32) : x.toInt8.toInt32 &&& 255 = x &&& 255 := by
  apply Int32.toBitVec_inj.mp
  rw [Int32.toBitVec_and, Int32.toBitVec_and, Int8.toBitVec_toInt32, Int32.toBitVec_toInt8]
  apply BitVec.eq_of_getLsbD_eq
  intro i hi
  rw [BitVec.getLsbD_and, BitVec.getLsbD_and]
  have hm : ∀ i < 32, 8 ≤ i → (255 : Int32).toBitVec.getLsbD i = false := by decide
  rcases Nat.lt_or_ge i 8 with z | z
  · rw [BitVec.getLsbD_signExtend, BitVec.getLsbD_signExtend, if_pos z, if_pos hi]
    simp only [z, hi, decide_true, Bool.true_and]
  · rw [hm i hi z]; simp
theorem fb8 (x : Int32) : x.toInt8.toInt32.toInt8.toInt32 = x.toInt8.toInt32 := by
  have h := pk_vb x
  rw [vp_nar_byte] at h
  exact h
theorem and255 (x : Int32) : ∃ m, m < 256 ∧ x &&& 255 = nI m := by
  have h : x.toBitVec.toNat &&& 255 < 2 ^ 8 := Nat.and_lt_two_pow _ (by decide)
  refine ⟨x.toBitVec.toNat &&& 255, h, ?_⟩
  apply Int32.toBitVec_inj.1
  apply BitVec.eq_of_toNat_eq
  show (x.toBitVec &&& (255 : Int32).toBitVec).toNat = (BitVec.ofNat 32 (x.toBitVec.toNat &&& 255)).toNat
  rw [BitVec.toNat_and, BitVec.toNat_ofNat, Nat.mod_eq_of_lt (by omega)]
  rfl
theorem byte_eq (p : Int32) {n : Nat} (hn : n ≤ 24) : (p >>> (nI n &&& 31)) &&& 255 = zush p (nI n) &&& 255 := by
  apply b_ext
  intro i hi
  rw [b_and, b_and, b_255, b_sshr n (by omega) p hi]
  unfold zush
  rw [b_ushr n (by omega) p i]
  by_cases h : i < 8
  · rw [if_pos (by omega)]
  · rw [decide_eq_false h, Bool.and_false, Bool.and_false]
/-- the shifts of the four bytes -/
def shv : Nat → Nat
  | 0 => 24
  | 1 => 16
  | 2 => 8
  | _ => 0
def by4 (p : Int32) (j : Nat) : Nat := ix (zush p (nI (shv j)) &&& 255)
theorem by4_e (p : Int32) (j : Nat) : zush p (nI (shv j)) &&& 255 = nI (by4 p j) ∧ by4 p j < 256 := by
  obtain ⟨m, hm, e⟩ := and255 (zush p (nI (shv j)))
  unfold by4
  rw [e, ix_nI (by omega)]
  exact ⟨rfl, hm⟩
theorem shv_le (j : Nat) : shv j ≤ 24 := by
  unfold shv
  split <;> decide
def putB (b : Nat → Nat) (n : Nat) (p : Int32) (k : Nat) : Nat → Nat := fun j => if n ≤ j ∧ j < n + k then by4 p (j - n) else b j
theorem putB_s (b : Nat → Nat) (n : Nat) (p : Int32) (k : Nat) (j : Nat) : putB b n p (k + 1) j = if j = n + k then by4 p k else putB b n p k j := by
  unfold putB
  by_cases h : j = n + k
  · subst h
    rw [if_pos rfl, if_pos (by omega), show n + k - n = k by omega]
  · rw [if_neg h]
    by_cases h2 : n ≤ j ∧ j < n + k
    · rw [if_pos h2, if_pos (by omega)]
    · rw [if_neg h2, if_neg (by omega)]
/-- the tape: n bytes -/
def XT (n : Nat) (b : Nat → Nat) (w : Wd) : Prop := n ≤ 940 ∧ wI w 1 1 = nI n ∧ ∀ j, j < n → wI w 2 j = nI (b j) ∧ b j < 256
def MT (n : Nat) (b : Nat → Nat) (w : Wd) : Prop := wI w 166 2 = nI n ∧ ∀ j, j < n → wI w 167 j &&& 255 = nI (b j)
/-- the fields of the tape that stay, but one -/
def Ft (P : Nat → Prop) (w w' : Wd) : Prop := ∀ j, ¬ P j → wI w' 1 j = wI w 1 j
section FE
variable {S : Nat → Int32} {w : Wd} {n : Nat} {b : Nat → Nat}
theorem x_put (h : XT n b w) (hn : n + 4 ≤ 940) (p : Int32) : tp (sh_13 1 p w) (fun _ w' => XT (n + 4) (putB b n p 4) w' ∧ Kp (fun q => q = 1 ∨ q = 2) w w' ∧ Ft (fun j => j = 1) w w') := by
  obtain ⟨-, h1, h2⟩ := h
  unfold sh_13
  refine tp_it (fun j s w' => s = (if j < 4 then nI (shv j) else -8) ∧ j ≤ 4 ∧ wI w' 1 1 = nI (n + j) ∧ (∀ i, i < n + j → wI w' 2 i = nI (putB b n p j i) ∧ putB b n p j i < 256) ∧ Kp (fun q => q = 1 ∨ q = 2) w w' ∧ Ft (fun j => j = 1) w w') 4 (by omega) ⟨rfl, Nat.zero_le _, h1, fun i hi => ?_, Kp.refl, fun _ _ => rfl⟩ (fun j s w' hI => ?_)
  · unfold putB
    rw [if_neg (by omega)]
    exact h2 i hi
  obtain ⟨e, hj, g1, g2, g3, g4⟩ := hI
  subst e
  by_cases hj4 : j < 4
  · rw [if_pos hj4]
    have hs := shv_le j
    refine tp_if (n0le (by omega)) ?_
    rw [g1]
    obtain ⟨eb, hb⟩ := by4_e p j
    have es : nI (shv j) + -8 = if j + 1 < 4 then nI (shv (j + 1)) else -8 := by
      have : j = 0 ∨ j = 1 ∨ j = 2 ∨ j = 3 := by omega
      rcases this with q | q | q | q <;> subst q <;> rfl
    rw [eb, ix_nI (by omega), es]
    refine tp_if (n0le (by omega)) (tp_if (jl (n := 940) (by omega) (by decide)) (tp_gd (ib_nI (by omega) (by decide)) (tp_stI (tp_stI (tp_lt (tp_on ⟨hj4, rfl, by omega, ?_, fun i hi => ?_, (g3.sI (by omega) _ _).sI (by omega) _ _, fun i hi => ?_⟩))))))
    · rw [wI_same, wI_row (by decide), g1, nI_s]; rfl
    · rw [wI_row (show ¬ 2 = 1 by decide), show 1 + 1 = 2 from rfl, wI_up, putB_s]
      unfold up
      by_cases q : i = n + j
      · rw [if_pos q, if_pos q]; exact ⟨rfl, hb⟩
      · rw [if_neg q, if_neg q]; exact g2 i (by omega)
    · rw [wI_other hi, wI_row (by decide)]; exact g4 i hi
  · rw [if_neg hj4]
    have : j = 4 := by omega
    subst this
    exact tp_ifn (by decide) (tp_out ⟨⟨by omega, g1, g2⟩, g3, g4⟩)
theorem y_four (h : MT n b w) (hn : n + 4 ≤ 940) (p : Int32) : tp (sh_186 166 p w) (fun _ w' => MT (n + 4) (putB b n p 4) w' ∧ Kp (fun q => q = 166 ∨ q = 167) w w' ∧ Fm (fun j => j = 2) w w') := by
  obtain ⟨h1, h2⟩ := h
  unfold sh_186
  refine tp_it (fun j s w' => s = (if j < 4 then nI (shv j) else -8) ∧ j ≤ 4 ∧ wI w' 166 2 = nI (n + j) ∧ (∀ i, i < n + j → wI w' 167 i &&& 255 = nI (putB b n p j i)) ∧ Kp (fun q => q = 166 ∨ q = 167) w w' ∧ Fm (fun j => j = 2) w w') 4 (by omega) ⟨rfl, Nat.zero_le _, h1, fun i hi => ?_, Kp.refl, fun _ _ => rfl⟩ (fun j s w' hI => ?_)
  · unfold putB
    rw [if_neg (by omega)]
    exact h2 i hi
  obtain ⟨e, hj, g1, g2, g3, g4⟩ := hI
  subst e
  by_cases hj4 : j < 4
  · rw [if_pos hj4]
    have hs := shv_le j
    refine tp_if (n0le (by omega)) ?_
    rw [g1]
    obtain ⟨eb, hb⟩ := by4_e p j
    have es : nI (shv j) + -8 = if j + 1 < 4 then nI (shv (j + 1)) else -8 := by
      have : j = 0 ∨ j = 1 ∨ j = 2 ∨ j = 3 := by omega
      rcases this with q | q | q | q <;> subst q <;> rfl
    rw [ix_nI (by omega), es]
    refine tp_gd (ib_nI (by omega) (by decide)) (tp_stI (tp_stI (tp_lt (tp_on ⟨hj4, rfl, by omega, ?_, fun i hi => ?_, (g3.sI (by omega) _ _).sI (by omega) _ _, fun i hi => ?_⟩))))
    · rw [wI_same, wI_row (by decide), g1, nI_s]; rfl
    · rw [wI_row (show ¬ 167 = 166 by decide), show 166 + 1 = 167 from rfl, wI_up, putB_s]
      unfold up
      by_cases q : i = n + j
      · rw [if_pos q, if_pos q, vp_nar_byte, fb8, bp_b, byte_eq p hs, eb]
      · rw [if_neg q, if_neg q]; exact g2 i (by omega)
    · rw [wI_other hi, wI_row (by decide)]; exact g4 i hi
  · rw [if_neg hj4]
    have : j = 4 := by omega
    subst this
    exact tp_ifn (by decide) (tp_out ⟨⟨g1, g2⟩, g3, g4⟩)
def feedB (b : Nat → Nat) (n : Nat) (p q r s t : Int32) : Nat → Nat := putB (putB (putB (putB (putB b n p 4) (n + 4) q 4) (n + 8) r 4) (n + 12) s 4) (n + 16) t 4
theorem x_feed_no (h : XT n b w) (hn : ¬ n + 20 ≤ 940) (p q r s t : Int32) : sh_11 0 p q r s t w = some (-1, w) := by
  have hn9 := h.1
  unfold sh_11 sh_12
  rw [Nat.zero_add, h.2.1, show (940 : Int32) - 20 = nI 920 from rfl, lt_s_, if_neg (by rw [nle_i (by omega) (by decide)]; omega)]
  rfl
theorem y_feed_no (h : MT n b w) (hn9 : n ≤ 940) (hn : ¬ n + 20 ≤ 940) (p q r s t : Int32) : sh_185 166 p q r s t w = some (-1, sI w 166 0 0) := by
  unfold sh_185
  rw [stI_s, wI_other (by decide), h.1, l20, nI_p, if_pos (show (940 : Int32) < nI (n + 20) from nlt (a := 940) (by omega) (by omega))]
theorem x_feed (h : XT n b w) (hn : n + 20 ≤ 940) (p q r s t : Int32) : tp (sh_11 0 p q r s t w) (fun v w' => v = nI (n + 20) ∧ XT (n + 20) (feedB b n p q r s t) w' ∧ Kp (fun q => q = 1 ∨ q = 2) w w' ∧ Ft (fun j => j = 1) w w') := by
  unfold sh_11
  have e : sh_12 1 20 w = some (true, w) := by
    unfold sh_12
    rw [h.2.1, show (940 : Int32) - 20 = nI 920 from rfl, lt_s_, if_pos ((nle_i (by omega) (by decide)).mpr (by omega))]
  refine tp_ce e (tp_if rfl ?_)
  refine tp_cl (x_put h (by omega) p) (fun _ w1 h1 => tp_cl (x_put h1.1 (by omega) q) (fun _ w2 h2 => tp_cl (x_put h2.1 (by omega) r) (fun _ w3 h3 => tp_cl (x_put h3.1 (by omega) s) (fun _ w4 h4 => tp_cl (x_put h4.1 (by omega) t) (fun _ w5 h5 => tp_some ⟨h5.1.2.1, h5.1, (((h1.2.1.trans h2.2.1).trans h3.2.1).trans h4.2.1).trans h5.2.1, fun j hj => ?_⟩)))))
  rw [h5.2.2 j hj, h4.2.2 j hj, h3.2.2 j hj, h2.2.2 j hj, h1.2.2 j hj]
theorem y_feed (h : MT n b w) (hn : n + 20 ≤ 940) (p q r s t : Int32) : tp (sh_185 166 p q r s t w) (fun v w' => v = nI (n + 20) ∧ MT (n + 20) (feedB b n p q r s t) w' ∧ Kp (fun q => q = 166 ∨ q = 167) w w' ∧ Fm (fun j => j = 0 ∨ j = 2) w w') := by
  have h0 : MT n b (sI w 166 0 0) := ⟨by rw [wI_other (by decide)]; exact h.1, by rw [wI_row (by decide)]; exact h.2⟩
  unfold sh_185
  refine tp_stI (tp_ifn (by rw [h0.1, l20, nI_p]; exact nnlt (b := n + 20) (a := 940) hn (by decide)) ?_)
  refine tp_cl (y_four h0 (by omega) p) (fun _ w1 h1 => tp_cl (y_four h1.1 (by omega) q) (fun _ w2 h2 => tp_cl (y_four h2.1 (by omega) r) (fun _ w3 h3 => tp_cl (y_four h3.1 (by omega) s) (fun _ w4 h4 => tp_cl (y_four h4.1 (by omega) t) (fun _ w5 h5 => tp_some ⟨h5.1.1, h5.1, (((((kp0 (P := fun q => q = 166 ∨ q = 167) (Or.inl rfl)).trans h1.2.1).trans h2.2.1).trans h3.2.1).trans h4.2.1).trans h5.2.1, fun j hj => ?_⟩)))))
  rw [h5.2.2 j (by omega), h4.2.2 j (by omega), h3.2.2 j (by omega), h2.2.2 j (by omega), h1.2.2 j (by omega), wI_other (by omega)]
def endOk (n : Nat) (p : Int32) : Prop := 0 ≤ p ∧ ¬ nI n < p
theorem x_end_no (h : XT n b w) {p : Int32} (hn : ¬ endOk n p) : sh_14 0 p w = some (false, w) := by
  unfold sh_14
  by_cases h0 : 0 ≤ p
  · rw [if_pos h0, Nat.zero_add, h.2.1]
    by_cases h1 : nI n < p
    · rw [if_pos h1]
    · exact absurd ⟨h0, h1⟩ hn
  · rw [if_neg h0]
theorem y_end_no (h : MT n b w) {p : Int32} (hn : ¬ endOk n p) : sh_187 166 p w = some (false, sI w 166 0 0) := by
  unfold sh_187
  rw [stI_s]
  by_cases h0 : 0 ≤ p
  · rw [if_pos h0, wI_other (by decide), h.1]
    by_cases h1 : nI n < p
    · rw [if_pos h1]
    · exact absurd ⟨h0, h1⟩ hn
  · rw [if_neg h0]
theorem endOk_t {p : Int32} (hn : n ≤ 940) (h : endOk n p) : ∃ m, p = nI m ∧ m ≤ n := by
  obtain ⟨m, hm, e⟩ := nI_ex h.1
  have h2 := h.2
  rw [e, nlt_i (by omega) hm] at h2
  exact ⟨m, e, by omega⟩
theorem x_end (h : XT n b w) {m : Nat} (hm : m ≤ n) : sh_14 0 (nI m) w = some (true, sI w 1 1 (nI m)) ∧ XT m b (sI w 1 1 (nI m)) := by
  have hn9 := h.1
  constructor
  · unfold sh_14
    rw [if_pos (n0le (by omega)), Nat.zero_add, h.2.1, if_neg (nnlt hm (by omega))]
    rfl
  · exact ⟨by omega, wI_same, fun j hj => by rw [wI_row (by decide)]; exact h.2.2 j (by omega)⟩
theorem y_end (h : MT n b w) (hn9 : n ≤ 940) {m : Nat} (hm : m ≤ n) : sh_187 166 (nI m) w = some (true, sI (sI w 166 0 0) 166 2 (nI m)) ∧ MT m b (sI (sI w 166 0 0) 166 2 (nI m)) := by
  constructor
  · unfold sh_187
    rw [stI_s, if_pos (n0le (by omega)), wI_other (by decide), h.1, if_neg (nnlt hm (by omega))]
    rfl
  · exact ⟨wI_same, fun j hj => by rw [wI_row (by decide), wI_row (by decide)]; exact h.2 j (by omega)⟩
/-! what may be said: the reference -/
theorem y_isSaid (hF : WF S) (hS : wI w 168 = S) {p c : Nat} (hp : p < ix (S 2)) (hc : c ≤ 45) (hc0 : 0 < c) {D : Nat → Nat} {x y z : Nat → Int32} (e0 : S 10084 = nI c) (hD0 : D 0 = 0) (hDc : D c = 1) (hst : ∀ i, i < c → stpR S (x i) (y i) (z i) (S (10085 + 3 * i)) (S (10086 + 3 * i)) (S (10087 + 3 * i)) (D i) (D (i + 1))) : tp (sh_280 166 (nI p) w) (fun v w' => v = (evN S p c).2 0 ∧ Kp (fun q => q = 166 ∨ q = 187) w w' ∧ Fm (fun j => j = 0) w w') := by
  have hd := ev_dep (p := p) hD0 hst
  have hp6 := hF.p6 hp
  unfold sh_280
  refine tp_it (fun i s w' => s = (nI (D i), nI i) ∧ i ≤ c ∧ (∀ j, j < D i → wI w' 187 j = bi ((evN S p i).2 j)) ∧ Kp (fun q => q = 166 ∨ q = 187) w w' ∧ Fm (fun j => j = 0) w w') c (by omega) ⟨by rw [hD0]; rfl, Nat.zero_le _, fun j hj => by omega, Kp.refl, fun _ _ => rfl⟩ (fun i s w' hI => ?_)
  obtain ⟨e, hi, g1, g2, g3⟩ := hI
  subst e
  have hS' : wI w' 168 = S := by rw [g2.I (by omega)]; exact hS
  have e187 : wI w' (166 + 21) = wI w' 187 := rfl
  refine tp_gd (ib_l (by decide) (by decide)) ?_
  rw [show wI w' (166 + 2) = wI w' 168 from rfl, hS', show ix (10084 : Int32) = 10084 from rfl, e0]
  refine tp_ite (fun hlt => ?_) (fun hlt => ?_)
  · have hic : i < c := (nlt_i (by omega) (by omega)).mp hlt
    have hdi := hd i (by omega)
    have hs := hst i hic
    have e4 : (10085 : Int32) + 3 * nI i = nI (10085 + 3 * i) := by rw [show (10085 : Int32) = nI 10085 from rfl, l3, nI_m, nI_p]
    rw [e4, nI_s]
    refine tp_lt (tp_gd (ib_nI (by omega) (by decide)) ?_)
    rw [ix_nI (by omega), e187]
    have out2 : ∀ (f : Bool) (m : Nat), D i = m + 2 → evN S p (i + 1) = ((evN S p i).1 - 1, upB (evN S p i).2 m f) → D (i + 1) = m + 1 → tp (gd (ib (nI (m + 1) - 1) 45) (stI w' (166 + 21) (ix (nI (m + 1) - 1)) (bi f) (fun w18 => lt (nI (i + 1) : Int32) (fun v3_19 => some ((.inl (nI (m + 1), v3_19) : (Int32 × Int32) ⊕ Bool), w18))))) (lpQ (fun s' w' => i < c ∧ s' = (nI (D (i + 1)), nI (i + 1)) ∧ i + 1 ≤ c ∧ (∀ j, j < D (i + 1) → wI w' 187 j = bi ((evN S p (i + 1)).2 j)) ∧ Kp (fun q => q = 166 ∨ q = 187) w w' ∧ Fm (fun j => j = 0) w w') (fun v w' => v = (evN S p c).2 0 ∧ Kp (fun q => q = 166 ∨ q = 187) w w' ∧ Fm (fun j => j = 0) w w')) := by
      intro f m em ee ed
      rw [nI_pred, ix_nI (by omega)]
      refine tp_gd (ib_nI (by omega) (by decide)) (tp_stI (tp_lt (tp_on ⟨hic, by rw [ed], by omega, fun j hj => ?_, g2.sI (by omega) _ _, fun j hj => by rw [wI_row (by omega)]; exact g3 j hj⟩)))
      rw [show 166 + 21 = 187 from rfl, wI_up, ee]
      show up (wI w' 187) m (bi f) j = bi (upB (evN S p i).2 m f j)
      unfold up upB
      by_cases q : j = m
      · rw [if_pos q, if_pos q]
      · rw [if_neg q, if_neg q]; exact g1 j (by omega)
    have hEv : evN S p (i + 1) = evS S p i (evN S p i) := rfl
    by_cases h6 : S (10085 + 3 * i) = 10
    · rcases hs with ⟨-, ex, h1, h2⟩ | ⟨-, ea, -⟩ | ⟨-, ea, -⟩ | ⟨k, hk, -, ea, -⟩ | ⟨q, hq, -, ea, -⟩
      · obtain ⟨m, em⟩ : ∃ m, D i = m + 1 := ⟨D i - 1, by omega⟩
        have ee : evN S p (i + 1) = ((evN S p i).1, upB (evN S p i).2 m (!(evN S p i).2 m)) := by
          rw [hEv]
          unfold evS
          rw [if_pos h6, hdi.1, em, Nat.add_sub_cancel]
        rw [em, nI_pred, ix_nI (by omega), g1 m (by omega)]
        refine tp_if h6 (tp_gd (ib_nI (by omega) (by decide)) (tp_lt (tp_gd (ib_nI (by omega) (by decide)) (tp_stI (tp_lt (tp_on ⟨hic, by rw [h2, em], by omega, fun j hj => ?_, g2.sI (by omega) _ _, fun j hj => by rw [wI_row (by omega)]; exact g3 j hj⟩))))))
        rw [show 166 + 21 = 187 from rfl, wI_up, ee]
        show up (wI w' 187) m _ j = bi (upB (evN S p i).2 m _ j)
        unfold up upB
        by_cases q : j = m
        · rw [if_pos q, if_pos q]
          cases (evN S p i).2 m <;> rfl
        · rw [if_neg q, if_neg q]; exact g1 j (by omega)
      · rw [ea] at h6; exact absurd h6 (by decide)
      · rw [ea] at h6; exact absurd h6 (by decide)
      · rw [ea] at h6; exact absurd h6 (by decide)
      · rw [ea] at h6; exact absurd h6 (n_eq (b := 10) (by omega) (by decide) (by omega))
    · refine tp_ifn h6 (tp_gd (ib_nI (by omega) (by decide)) (tp_jn ?_))
      by_cases h7 : S (10085 + 3 * i) = 11
      · rcases hs with ⟨-, ea, -⟩ | ⟨-, ex, h1, h2⟩ | ⟨-, ea, -⟩ | ⟨k, hk, -, ea, -⟩ | ⟨q, hq, -, ea, -⟩
        · exact absurd ea h6
        · obtain ⟨m, em⟩ : ∃ m, D i = m + 2 := ⟨D i - 2, by omega⟩
          have ed : D (i + 1) = m + 1 := by omega
          have ee : ∀ f, f = ((evN S p i).2 m && (evN S p i).2 (m + 1)) → evN S p (i + 1) = ((evN S p i).1 - 1, upB (evN S p i).2 m f) := by
            intro f hf
            rw [hEv]
            unfold evS
            rw [if_neg h6, if_pos h7, hdi.1, em, hf, show m + 2 - 1 = m + 1 by omega, Nat.add_sub_cancel]
          have g1a := g1 m (by omega)
          have g1b := g1 (m + 1) (by omega)
          refine tp_if h7 ?_
          have e1 : nI (D i) + -1 = nI (m + 1) := by rw [em, n_dec (by omega)]; rfl
          rw [e1]
          refine tp_lt (tp_gd (ib_nI (by omega) (by decide)) (tp_if (by rw [hS']; exact h7) ?_))
          have i1 : ib (nI (m + 1) - 1) 45 = true := by rw [nI_pred]; exact ib_nI (by omega) (by decide)
          refine tp_gd i1 ?_
          rw [show wI w' (166 + 21) (ix (nI (m + 1) - 1)) = bi ((evN S p i).2 m) by rw [nI_pred, ix_nI (by omega)]; exact g1a, show wI w' (166 + 21) (ix (nI (m + 1))) = bi ((evN S p i).2 (m + 1)) by rw [ix_nI (by omega)]; exact g1b]
          refine tp_ite (fun c1 => ?_) (fun c1 => ?_)
          · exact out2 false m em (ee _ (by cases hb : (evN S p i).2 m; rfl; rw [hb] at c1; exact absurd c1 (by decide))) ed
          · refine tp_gd (ib_nI (by omega) (by decide)) (tp_ite (fun c2 => ?_) (fun c2 => ?_))
            · exact out2 false m em (ee _ (by cases hb : (evN S p i).2 (m + 1); rw [Bool.and_false]; rw [hb] at c2; exact absurd c2 (by decide))) ed
            · exact out2 true m em (ee _ (by
                cases hb : (evN S p i).2 m
                · rw [hb] at c1; exact absurd rfl c1
                · cases hc2 : (evN S p i).2 (m + 1)
                  · rw [hc2] at c2; exact absurd rfl c2
                  · rfl)) ed
        · rw [ea] at h7; exact absurd h7 (by decide)
        · rw [ea] at h7; exact absurd h7 (by decide)
        · rw [ea] at h7; exact absurd h7 (n_eq (b := 11) (by omega) (by decide) (by omega))
      · refine tp_ifn h7 (tp_gd (ib_nI (by omega) (by decide)) ?_)
        by_cases h8 : S (10085 + 3 * i) = 12
        · rcases hs with ⟨-, ea, -⟩ | ⟨-, ea, -⟩ | ⟨-, ex, h1, h2⟩ | ⟨k, hk, -, ea, -⟩ | ⟨q, hq, -, ea, -⟩
          · exact absurd ea h6
          · exact absurd ea h7
          · obtain ⟨m, em⟩ : ∃ m, D i = m + 2 := ⟨D i - 2, by omega⟩
            have ed : D (i + 1) = m + 1 := by omega
            have ee : ∀ f, f = ((evN S p i).2 m || (evN S p i).2 (m + 1)) → evN S p (i + 1) = ((evN S p i).1 - 1, upB (evN S p i).2 m f) := by
              intro f hf
              rw [hEv]
              unfold evS
              rw [if_neg h6, if_neg h7, if_pos h8, hdi.1, em, hf, show m + 2 - 1 = m + 1 by omega, Nat.add_sub_cancel]
            have g1a := g1 m (by omega)
            have g1b := g1 (m + 1) (by omega)
            refine tp_if h8 ?_
            have e1 : nI (D i) + -1 = nI (m + 1) := by rw [em, n_dec (by omega)]; rfl
            rw [e1]
            refine tp_lt (tp_gd (ib_nI (by omega) (by decide)) (tp_ifn (by rw [hS']; exact h7) ?_))
            have i1 : ib (nI (m + 1) - 1) 45 = true := by rw [nI_pred]; exact ib_nI (by omega) (by decide)
            refine tp_gd i1 ?_
            rw [show wI w' (166 + 21) (ix (nI (m + 1) - 1)) = bi ((evN S p i).2 m) by rw [nI_pred, ix_nI (by omega)]; exact g1a, show wI w' (166 + 21) (ix (nI (m + 1))) = bi ((evN S p i).2 (m + 1)) by rw [ix_nI (by omega)]; exact g1b]
            refine tp_ite (fun c1 => ?_) (fun c1 => ?_)
            · have f1 : (evN S p i).2 m = false := by
                cases hb : (evN S p i).2 m
                · rfl
                · rw [hb] at c1; exact absurd c1 (by decide)
              refine tp_gd (ib_nI (by omega) (by decide)) (tp_ite (fun c2 => ?_) (fun c2 => ?_))
              · exact out2 false m em (ee _ (by
                  cases hc2 : (evN S p i).2 (m + 1)
                  · rw [f1]; rfl
                  · rw [hc2] at c2; exact absurd c2 (by decide))) ed
              · exact out2 true m em (ee _ (by
                  cases hc2 : (evN S p i).2 (m + 1)
                  · rw [hc2] at c2; exact absurd rfl c2
                  · rw [f1]; rfl)) ed
            · exact out2 true m em (ee _ (by
                cases hb : (evN S p i).2 m
                · rw [hb] at c1; exact absurd rfl c1
                · rfl)) ed
          · rw [ea] at h8; exact absurd h8 (by decide)
          · rw [ea] at h8; exact absurd h8 (n_eq (b := 12) (by omega) (by decide) (by omega))
        · refine tp_ifn h8 (tp_gd (ib_nI (by omega) (by decide)) ?_)
          have hx : D (i + 1) = D i + 1 ∧ D (i + 1) ≤ 20 := by
            rcases hs with ⟨-, ea, -⟩ | ⟨-, ea, -⟩ | ⟨-, ea, -⟩ | ⟨k, hk, -, -, -, -, h1, h2⟩ | ⟨q, hq, -, -, -, -, h1, h2⟩
            · exact absurd ea h6
            · exact absurd ea h7
            · exact absurd ea h8
            · exact ⟨h1, h2⟩
            · exact ⟨h1, h2⟩
          rw [l1, l2, nI_p, nI_p, ix_nI (by omega), ix_nI (by omega), show 10085 + 3 * i + 1 = 10086 + 3 * i by omega, show 10085 + 3 * i + 2 = 10087 + 3 * i by omega]
          refine tp_gd (ib_nI (by omega) (by decide)) (tp_gd (ib_nI (by omega) (by decide)) (tp_cl (y_leaf hF hS' hp hs h6 h7 h8) (fun v w2 h2 => ?_)))
          obtain ⟨hv, hw2⟩ := h2
          subst hv
          have hK2 : Kp (fun q => q = 166 ∨ q = 187) w w2 := by
            rcases hw2 with q | q
            · rw [q]; exact g2
            · rw [q]; exact g2.sI (by omega) _ _
          have hF2 : Fm (fun j => j = 0) w w2 := by
            rcases hw2 with q | q
            · rw [q]; exact g3
            · rw [q]; exact fun j hj => by rw [wI_other hj]; exact g3 j hj
          have h187 : wI w2 187 = wI w' 187 := by
            rcases hw2 with q | q
            · rw [q]
            · rw [q, wI_row (by decide)]
          rw [ix_nI (by omega)]
          refine tp_gd (ib_nI (by omega) (by decide)) (tp_stI (tp_lt (tp_lt (tp_on ⟨hic, by rw [hx.1, nI_p], by omega, fun j hj => ?_, hK2.sI (by omega) _ _, fun j hj => by rw [wI_row (by omega)]; exact hF2 j hj⟩))))
          rw [show 166 + 21 = 187 from rfl, wI_up, h187, hEv]
          unfold evS
          rw [if_neg h6, if_neg h7, if_neg h8, hdi.1]
          show up (wI w' 187) (D i) (bi (leafB S p i)) j = bi (upB (evN S p i).2 (D i) (leafB S p i) j)
          unfold up upB
          by_cases q : j = D i
          · rw [if_pos q, if_pos q]
          · rw [if_neg q, if_neg q]; exact g1 j (by omega)
  · have hic : i = c := by
      by_cases q : i < c
      · exact absurd (nlt q (by omega)) hlt
      · omega
    subst hic
    rw [ix_0, show wI w' (166 + 21) 0 = bi ((evN S p i).2 0) from g1 0 (by omega)]
    refine tp_gd (ib_l (by decide) (by decide)) (tp_gd (by cases (evN S p i).2 0 <;> rfl) (tp_out ⟨?_, g2, g3⟩))
    cases (evN S p i).2 0 <;> rfl
def saidS (S : Nat → Int32) (k : Int32) : Int32 := if S 10084 = 0 then -1 else srch (fun p => (evN S p (ix (S 10084))).2 0) k (fun c => if k = -1 then c else -1) (ix (S 2)) 0 0
theorem y_said {a : Nat} {w0 : Wd} (hF : WF S) (hS : wI w 168 = S) (hs : SR S w0 a) (k : Int32) : tp (sh_279 166 k w) (fun v w' => v = saidS S k ∧ Kp (fun q => q = 166 ∨ q = 187) w w' ∧ Fm (fun j => j = 0) w w') := by
  obtain ⟨c, D, hc, e0, e1, ez, hD0, hDc, hst⟩ := hs
  obtain ⟨P, eP, hP⟩ := hF.2.1
  unfold sh_279
  refine tp_stI (tp_gd (ib_l (by decide) (by decide)) ?_)
  unfold saidS
  rw [m0 hS, show ix (10084 : Int32) = 10084 from rfl, e0, ix_nI (by omega)]
  have hK0 : Kp (fun q => q = 166 ∨ q = 187) w (sI w 166 0 0) := kp0 (Or.inl rfl)
  have hF0 : Fm (fun j => j = 0) w (sI w 166 0 0) := fun j hj => wI_other hj
  refine tp_ite (fun h0 => ?_) (fun h0 => ?_)
  · exact tp_some ⟨by rw [if_pos h0], hK0, hF0⟩
  · rw [if_neg h0]
    refine tp_ite (fun hk => ?_) (fun hk => ?_)
    · refine tp_some ⟨?_, hK0, hF0⟩
      have e : srch (fun p => (evN S p c).2 0) k (fun c => if k = -1 then c else -1) (ix (S 2)) 0 (nI 0) = -1 := srch_neg hk (by rw [eP, ix_nI (by omega)]; omega) (fun c => if_neg (fun q => by subst q; revert hk; decide))
      exact e.symm
    · rw [eP, ix_nI (by omega)]
      refine tp_srch (I := fun w' => Kp (fun q => q = 166 ∨ q = 187) w w' ∧ Fm (fun j => j = 0) w w') _ k _ P (fun j d w1 hj hI => ?_) (fun d w1 hI => ?_) (by omega) ⟨hK0, hF0⟩
      · have hS1 : wI w1 168 = S := by rw [hI.1.I (by omega)]; exact hS
        refine tp_gd (ib_l (by decide) (by decide)) (tp_if (by rw [show wI w1 (166 + 2) = wI w1 168 from rfl, hS1, ix_2, eP]; exact nlt hj (by omega)) (tp_cl (y_isSaid hF hS1 (by rw [eP, ix_nI (by omega)]; exact hj) hc (by
          by_cases q : c = 0
          · subst q; exact absurd rfl h0
          · omega) e0 hD0 (hDc (by
          by_cases q : c = 0
          · subst q; exact absurd rfl h0
          · omega)) hst) (fun v w2 h2 => ?_)))
        obtain ⟨hv, hK2, hF2⟩ := h2
        have hI2 : Kp (fun q => q = 166 ∨ q = 187) w w2 ∧ Fm (fun j => j = 0) w w2 := ⟨hI.1.trans hK2, fun j hj => by rw [hF2 j hj, hI.2 j hj]⟩
        rw [hv, nI_s]
        refine tp_ite (fun c1 => tp_ite (fun c2 => ?_) (fun c2 => ?_)) (fun c1 => ?_)
        · exact tp_out ⟨hI2, ⟨c1, c2⟩, rfl⟩
        · exact tp_lt (tp_lt (tp_on ⟨hI2, fun z => c2 z.2, by rw [if_pos c1]⟩))
        · exact tp_lt (tp_on ⟨hI2, fun z => c1 z.1, by rw [if_neg c1]⟩)
      · have hS1 : wI w1 168 = S := by rw [hI.1.I (by omega)]; exact hS
        refine tp_gd (ib_l (by decide) (by decide)) (tp_ifn (by rw [show wI w1 (166 + 2) = wI w1 168 from rfl, hS1, ix_2, eP]; exact nnlt (Nat.le_refl _) (by omega)) (tp_lt (tp_out ⟨hI, rfl⟩)))
end FE
