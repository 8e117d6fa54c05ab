/-! a WALK is read, on both sides -/
section TC
variable {α β γ δ : Type} {m2 : Option (β × Wd)} {Q : α → Wd → β → Wd → Prop} {w : Wd} {F : γ → Wd → Option (α × Wd)}
theorem t2c_cl {m : Option (δ × Wd)} {f : δ → Wd → Option (γ × Wd)} (k : t2 (cl m (fun r w => cl (f r w) F)) m2 Q) : t2 (cl (cl m f) F) m2 Q := by
  cases m with
  | none => exact k
  | some r => exact k
theorem t2c_if {c : Prop} [Decidable c] {a b : Option (γ × Wd)} (h : c) (k : t2 (cl a F) m2 Q) : t2 (cl (if c then a else b) F) m2 Q := by rw [if_pos h]; exact k
theorem t2c_ifn {c : Prop} [Decidable c] {a b : Option (γ × Wd)} (h : ¬ c) (k : t2 (cl b F) m2 Q) : t2 (cl (if c then a else b) F) m2 Q := by rw [if_neg h]; exact k
theorem t2c_gd {b : Bool} {m : Option (γ × Wd)} (h : b = true) (k : t2 (cl m F) m2 Q) : t2 (cl (gd b m) F) m2 Q := by rw [gd_t h]; exact k
theorem t2c_lt {x : δ} {f : δ → Option (γ × Wd)} (k : t2 (cl (f x) F) m2 Q) : t2 (cl (lt x f) F) m2 Q := k
theorem t2c_some {r : γ} {w' : Wd} (k : t2 (F r w') m2 Q) : t2 (cl (some (r, w')) F) m2 Q := k
theorem t2c_g {o j : Nat} {v : Int32} {f : Wd → Option (γ × Wd)} (k : ∀ w1, wI w1 o = up (wI w o) j v → Kp (fun a => a = o) w w1 → t2 (cl (f w1) F) m2 Q) : t2 (cl (stI w o j v f) F) m2 Q := k _ wI_up (kp0 rfl)
end TC
theorem fdR_u {P : Nat} {f : Nat → List Nat} {l : List Nat} {v v' : Int32} (h : fdR P f l v) (h' : fdR P f l v') : v = v' := by
  rcases h with ⟨e, hn⟩ | ⟨k, hk, e, hf, hn⟩ <;> rcases h' with ⟨e', hn'⟩ | ⟨k', hk', e', hf', hn'⟩
  · rw [e, e']
  · exact absurd hf' (hn k' hk')
  · exact absurd hf (hn' k hk)
  · have : k = k' := by
      by_cases q1 : k < k'
      · exact absurd hf (hn' k q1)
      · by_cases q2 : k' < k
        · exact absurd hf' (hn k' q2)
        · omega
    rw [e, e', this]
section JS
variable {α β : Type} {Q : α → Wd → β → Wd → Prop} {n lim m i : Nat} {b : Nat → Nat} {w1 w2 : Wd}
theorem j_takeI {F : Int32 → Wd → Option (α × Wd)} {G : Bool → Wd → Option (β × Wd)} {lo hi : Int32} (h0 : 0 ≤ lo) (hX : XQ n b lim m i w1) (hY : YS n b lim m i w2) (kno : ∀ f a, t2 (F (-1) (xBad f a w1)) (G false (yBad f a w2)) Q) (kok : ∀ v v1 v2, v < 1000 → lo ≤ nI v → nI v ≤ hi → XQ n b lim m (nextN m i) v1 → YS n b lim m (nextN m i) v2 → wI v2 166 18 = nI v → PX w1 v1 → PY w2 v2 → t2 (F (nI v) v1) (G true v2) Q) : t2 (cl (sh_38 1 lo hi w1) F) (cl (sh_198 166 lo hi w2) G) Q := by
  have hT := hX.1.1.2.2.2.1
  by_cases k1 : numOk (tkA n b m i) lo hi
  · refine t2_1 (xq_take hX k1) (fun v v1 g1 => t2_2 (ys_take hY hT k1) (fun q v2 g2 => ?_))
    obtain ⟨e1, g11, g12, -⟩ := g1
    obtain ⟨e2, e18, g21, g22⟩ := g2
    rw [e1, e2]
    exact kok _ v1 v2 (tkA_num k1.1) k1.2.1 k1.2.2 g11 g21 e18 g12 g22
  · exact t2_e1 (x_take_no hX.1 h0 k1) (t2_e2 (y_take_no hY.1 k1) (kno _ _))
theorem j_sign {F : Bool → Wd → Option (α × Wd)} {G : Bool → Wd → Option (β × Wd)} (c : Nat) (hc : 1 ≤ c) (h9 : c ≤ 62) (hX : XQ n b lim m i w1) (hY : YS n b lim m i w2) (kno : ∀ a, t2 (F false (xBad 1 a w1)) (G false (yBad 1 a w2)) Q) (kok : ∀ v1 v2, i < m → XQ n b lim m (nextN m i) v1 → YS n b lim m (nextN m i) v2 → PX w1 v1 → PY w2 v2 → t2 (F true v1) (G true v2) Q) : t2 (cl (sh_58 1 (nI c) w1) F) (cl (sh_208 166 (nI c) w2) G) Q := by
  have hT := hX.1.1.2.2.2.1
  cases hs : sgOk (tkA n b m i) c with
  | true =>
    refine t2_1 (xq_sign hX hc h9 hs) (fun q v3 g3 => t2_2 (ys_sign hY hT h9 hs) (fun q2 v4 g4 => ?_))
    rw [g3.1, g4.1]
    exact kok v3 v4 (sg_lt hs) g3.2.1 g4.2.1 g3.2.2 ⟨g4.2.2.1, fun j hj => g4.2.2.2 j (fun y => hj (Or.inl y))⟩
  | false => exact t2_e1 (x_sign_bad hX.1 hc h9 hs) (t2_e2 (y_sign_bad hY.1 h9 hs) (kno _))
end JS
def WX (w w' : Wd) : Prop := Kp (fun q => q = 1 ∨ (60 ≤ q ∧ q ≤ 63)) w w' ∧ ∀ j, 3 ≤ j → wI w' 60 j = wI w 60 j
def wyF (j : Nat) : Prop := nxF j ∨ j = 18 ∨ j = 15 ∨ j = 16 ∨ j = 32 ∨ j = 33 ∨ j = 34
def WY (w w' : Wd) : Prop := Kp (fun q => q = 166 ∨ q = 170) w w' ∧ Fm wyF w w'
def WS (p t L : Nat) (dd ff mm : Nat → Nat) (w1 w2 : Wd) : Prop := L ≤ 30 ∧ wI w1 60 0 = nI p ∧ wI w1 60 1 = nI t ∧ wI w1 60 2 = nI L ∧ wI w2 166 32 = nI p ∧ wI w2 166 33 = nI t ∧ wI w2 166 34 = nI L ∧ ∀ i, i < L → dd i < 4 ∧ (1 ≤ ff i ∧ ff i ≤ 11) ∧ (1 ≤ mm i ∧ mm i ≤ 99) ∧ wI w1 61 i = nI (dd i) ∧ wI w1 62 i = nI (ff i) ∧ wI w1 63 i = nI (mm i) ∧ wI w2 170 (3 * i) = nI (dd i) ∧ wI w2 170 (3 * i + 1) = nI (ff i) ∧ wI w2 170 (3 * i + 2) = nI (mm i)
def WQ (S : Nat → Int32) (u1 u2 : Wd) (r1 : Bool) (w1 : Wd) (r2 : Bool) (w2 : Wd) : Prop := WX u1 w1 ∧ WY u2 w2 ∧ ((r1 = false ∧ r2 = false ∧ FL w1 w2) ∨ (r1 = true ∧ r2 = true ∧ wI w1 1 2 = 0 ∧ wI w2 166 15 = 0 ∧ ∃ p t L dd ff mm, p < ix (S 2) ∧ onR S t ∧ WS p t L dd ff mm w1 w2))
section WR
variable {n lim m i a : Nat} {b : Nat → Nat} {S : Nat → Int32} {w w' w3 w1 w2 u1 u2 : Wd} {f : Nat → Int64}
theorem WX.refl : WX w w := ⟨Kp.refl, fun _ _ => rfl⟩
theorem WX.trans (h : WX w w') (h2 : WX w' w3) : WX w w3 := ⟨h.1.trans h2.1, fun j hj => (h2.2 j hj).trans (h.2 j hj)⟩
theorem WX.t (h : PX w w') : WX w w' := ⟨h.mono (fun _ q => Or.inl q), fun j _ => by rw [h.I (by decide)]⟩
theorem WX.r {k : Nat} (h : Kp (fun q => q = k) w w') (h1 : 61 ≤ k) (h2 : k ≤ 63) : WX w w' := ⟨h.mono (fun q y => by omega), fun j _ => by rw [h.I (by omega)]⟩
theorem WX.o {j : Nat} {v : Int32} (h : Kp (fun q => q = 60) w w') (e : wI w' 60 = up (wI w 60) j v) (hj : j < 3) : WX w w' := ⟨h.mono (fun q y => by omega), fun i hi => by rw [e, up_o (by omega)]⟩
theorem WY.refl : WY w w := ⟨Kp.refl, fun _ _ => rfl⟩
theorem WY.trans (h : WY w w') (h2 : WY w' w3) : WY w w3 := ⟨h.1.trans h2.1, fun j hj => (h2.2 j hj).trans (h.2 j hj)⟩
theorem WY.p (h : PY w w') : WY w w' := ⟨h.1.mono (fun _ q => Or.inl q), fun j hj => h.2 j (fun q => hj (by unfold wyF; unfold nxF at *; omega))⟩
theorem WY.r (h : Kp (fun q => q = 170) w w') : WY w w' := ⟨h.mono (fun q y => Or.inr y), fun j _ => by rw [h.I (by decide)]⟩
theorem WY.o {j : Nat} {v : Int32} (h : Kp (fun q => q = 166) w w') (e : wI w' 166 = up (wI w 166) j v) (hj : j = 32 ∨ j = 33 ∨ j = 34) : WY w w' := ⟨h.mono (fun q y => Or.inl y), fun i hi => by rw [e, up_o (fun q => hi (by unfold wyF; omega))]⟩
theorem WX_bad (h : WX u1 w) (f : Int32) (a : Nat) : WX u1 (xBad f a w) := h.trans (WX.t ((kp0 (P := fun q => q = 1) rfl).sI rfl _ _))
theorem WY_bad (h : WY u2 w) (f : Int32) (a : Nat) : WY u2 (yBad f a w) := h.trans ⟨((kp0 (P := fun q => q = 166 ∨ q = 170) (Or.inl rfl)).sI (Or.inl rfl) _ _), fun j hj => by unfold yBad; rw [wI_other (fun q => hj (by unfold wyF; omega)), wI_other (fun q => hj (by unfold wyF; omega))]⟩
theorem wq_bad (hx : WX u1 w1) (hy : WY u2 w2) (f : Int32) (a : Nat) : WQ S u1 u2 false (xBad f a w1) false (yBad f a w2) := ⟨WX_bad hx f a, WY_bad hy f a, Or.inl ⟨rfl, rfl, FL_bad f a⟩⟩
theorem wq_bad2 {f : Int32} {a : Nat} {v1 v2 : Wd} (hx : WX u1 w1) (hy : WY u2 w2) (e1 : wI w1 1 = wI (xBad f a v1) 1) (e2 : wI w2 166 = wI (yBad f a v2) 166) : WQ S u1 u2 false w1 false w2 := by
  refine ⟨hx, hy, Or.inl ⟨rfl, rfl, ?_⟩⟩
  have := @FL_bad v1 v2 f a
  unfold FL at *
  rw [e1, e2]
  exact this
theorem YS.up (h : YS n b lim m i w) {j : Nat} {v : Int32} (hk : Kp (fun q => q = 166) w w') (e : wI w' 166 = up (wI w 166) j v) (el : wL w' = wL w) (hj : ¬ j = 3 ∧ ¬ j = 4 ∧ ¬ j = 5 ∧ ¬ j = 11 ∧ ¬ j = 12 ∧ ¬ j = 14 ∧ ¬ j = 15) : YS n b lim m i w' :=
  (h.f (v := v) hj).same (by rw [e, wI_up]) (by rw [el, wL_sI' w 166 j v 166]) (by rw [hk.I (by decide), wI_row (by decide)]) (by rw [el, wL_sI' w 166 j v 172])
theorem t2_h2 {α β : Type} {m1 : Option (α × Wd)} {Q : α → Wd → β → Wd → Prop} {o j : Nat} {v : Int32} {f : Wd → Option (β × Wd)} (k : ∀ w1, wI w1 o = up (wI w o) j v → Kp (fun a => a = o) w w1 → wL w1 = wL w → t2 m1 (f w1) Q) : t2 m1 (stI w o j v f) Q := k _ wI_up (kp0 rfl) rfl
theorem j_wread (hX : XQ n b lim m 0 w1) (hY : YS n b lim m 0 w2) (hF : WF S) (hR : HR S w1 a) (ha : a = 7 ∨ a = 17) (hN : NM S w1 a f) (hS : wI w2 168 = S) (hf : MN f w2) (z34 : wI w2 166 34 = 0) (z2 : wI w1 60 2 = 0) : t2 (cl (sh_130 60 1 a w1) (fun r5 w4 => if r5 = true then (itM (fun (v3_7 : Int32) (w9 : Wd) => if v3_7 ≤ 30 then (cl (sh_30 1 w9) (fun r12 w11 => if r12 = true then (cl (sh_60 1 w11) (fun r15 w14 => some (.inr (r15), w14))) else (cl (sh_131 60 1 w11) (fun r17 w16 => if r17 = true then (cl (sh_58 1 59 w16) (fun r20 w19 => if r20 = true then (lt (v3_7 + 1 : Int32) (fun v3_22 => some (.inl v3_22, w19))) else (some (.inr (false), w19)))) else (some (.inr (false), w16)))))) else (cl (sh_60 1 w9) (fun r24 w23 => some (.inr (r24), w23)))) FU 0 w4) else (some (false, w4)))) (sh_254 166 w2) (WQ S w1 w2) := by
  have hT := hX.1.1.2.2.2.1
  obtain ⟨W, H, e0, e1, hW, hH⟩ := hF.1
  obtain ⟨P, e2, hP⟩ := hF.2.1
  have x3 : wI w1 a 3 = nI P := hR.2.2.1.trans e2
  have x0 : wI w1 a 0 = nI W := hR.1.trans e0
  have x1 : wI w1 a 1 = nI H := hR.2.1.trans e1
  have y2 : wI w2 168 2 = nI P := by rw [hS]; exact e2
  have y0 : wI w2 168 0 = nI W := by rw [hS]; exact e0
  have y1 : wI w2 168 1 = nI H := by rw [hS]; exact e1
  have nm1 := hN.1
  rw [e2, ix_nI (by omega)] at nm1
  have ef : ∃ g : Nat → List Nat, ∀ k, k < P → okL (g k) ∧ wL w1 (a + 4) k = lN (en5 (g k)) ∧ wL w2 171 (0 + k) = lN (en8 (g k)) := by
    refine ⟨fun k => if h : k < P then Classical.choose (nm1 k h) else [], fun k hk => ?_⟩
    have q := Classical.choose_spec (nm1 k hk)
    simp only [dif_pos hk]
    exact ⟨⟨q.1, q.2.1, q.2.2.1⟩, q.2.2.2.1, by rw [Nat.zero_add, hf k (by omega)]; exact q.2.2.2.2⟩
  obtain ⟨g, hg⟩ := ef
  have hg1 : ∀ k, k < P → okL (g k) ∧ wL w1 (a + 4) k = lN (en5 (g k)) := fun k hk => ⟨(hg k hk).1, (hg k hk).2.1⟩
  have hg2 : ∀ k, k < P → okL (g k) ∧ wL w2 171 (0 + k) = lN (en8 (g k)) := fun k hk => ⟨(hg k hk).1, (hg k hk).2.2⟩
  unfold sh_130 sh_254
  refine t2c_cl (t2_2 (y_isName hY.1 hT hY.2.2.1) (fun v w' hv => ?_))
  obtain ⟨ew, hv⟩ := hv
  rw [ew]
  by_cases ho : nmOk (tkA n b m 0)
  · have hl := tkA_wd hT ho.1
    refine t2_e1 (x_name_ok hX.1 ho) (t2c_ifn (lN_m1 hl) (t2c_cl (t2_if2 (hv.mpr ho) (t2_gd2 (by decide) ?_))))
    rw [show wI w2 (166 + 2) (ix 2) = nI P from y2]
    refine t2_1 (x_find43 x3 hP hg1 hl) (fun v3 w3 h3 => t2_2 (y_find (g := 0) hP (by decide) (y_word17 hY.1 ho.1).2 hg2 hl) (fun v4 w4 h4 => ?_))
    obtain ⟨ew3, h3⟩ := h3
    obtain ⟨ew4, h4⟩ := h4
    rw [ew3, ew4, fdR_u h4 h3]
    clear h4 ew4 ew3
    refine t2c_g (fun u3 e3 k3 => t2_h2 (fun u4 e4 k4 l4 => ?_))
    rw [e3, e4, up_s, up_s]
    have hX3 : XQ n b lim m 0 u3 := hX.kp k3 (fun q h1 h2 => by omega)
    have hY4 : YS n b lim m 0 u4 := hY.up k4 e4 l4 (by decide)
    have wx3 : WX w1 u3 := WX.o k3 e3 (by decide)
    have wy4 : WY w2 u4 := WY.o k4 e4 (by omega)
    rcases h3 with ⟨ev, -⟩ | ⟨p, hp, ev, -, -⟩
    · rw [ev]
      exact t2c_if rfl (t2c_cl (t2_if2 (by decide) (j_bad hX3 hY4 3 (fun c => t2c_some (t2_ifn1 (by decide) (t2_end (wq_bad wx3 wy4 3 c)))))))
    · rw [ev]
      refine t2c_ifn (n_m1 (by omega)) (t2c_cl (t2_ifn2 (show ¬ nI p < nI 0 from nnlt (by omega) (by omega)) (j_go hX3 hY4 (fun u5 u6 hX5 hY6 p5 q6 => t2c_cl (t2_gd2 (by decide) ?_)))))
      rw [show wI u5 a 0 = nI W by rw [p5.I (by omega), k3.I (by omega)]; exact x0, show wI u6 (166 + 2) (ix 0) = nI W by rw [show wI u6 (166 + 2) = wI u6 168 from rfl, q6.1.I (by decide), k4.I (by decide)]; exact y0]
      have wx5 := wx3.trans (WX.t p5)
      have wy6 := wy4.trans (WY.p q6)
      refine j_takeI (by decide) hX5 hY6 (fun f c => t2c_if rfl (t2c_some (t2_ifn1 (by decide) (t2_ifn2 (by decide) (t2_end (wq_bad wx5 wy6 f c)))))) (fun x u7 u8 hx xl xh hX7 hY8 e18 p7 q8 => ?_)
      refine t2c_ifn (n_m1 hx) (t2c_cl (t2_if2 rfl (t2_h2 (fun u9 e9 k9 l9 => t2_gd2 (by decide) ?_))))
      rw [e18] at e9
      rw [show wI u7 a 1 = nI H by rw [p7.I (by omega), p5.I (by omega), k3.I (by omega)]; exact x1, show wI u9 (166 + 2) (ix 1) = nI H by rw [show wI u9 (166 + 2) = wI u9 168 from rfl, k9.I (by decide), q8.1.I (by decide), q6.1.I (by decide), k4.I (by decide)]; exact y1]
      have hY9 : YS n b lim m _ u9 := hY8.up k9 e9 l9 (by decide)
      have wx7 := wx5.trans (WX.t p7)
      have wy9 := (wy6.trans (WY.p q8)).trans (WY.o k9 e9 (by omega))
      refine j_takeI (by decide) hX7 hY9 (fun f c => t2c_if rfl (t2c_some (t2_ifn1 (by decide) (t2_ifn2 (by decide) (t2_end (wq_bad wx7 wy9 f c)))))) (fun y u11 u10 hy yl yh hX11 hY10 e18' p11 q10 => ?_)
      refine t2c_ifn (n_m1 hy) (t2c_g (fun u13 e13 k13 => t2c_cl (t2_if2 rfl (t2_h2 (fun u12 e12 k12 l12' => ?_)))))
      have e33 : wI u10 166 33 = nI x := by rw [q10.2 33 (by unfold nxF; omega), e9, up_s]
      rw [e33, e18', l12, nI_m, nI_p] at e12
      rw [l12, nI_m, nI_p] at e13
      obtain ⟨onr, lt144⟩ := wf_xy e0 e1 hW hH hx hy xh yh
      have hX13 : XQ n b lim m _ u13 := hX11.kp k13 (fun q h1 h2 => by omega)
      have hY12 : YS n b lim m _ u12 := hY10.up k12 e12 l12' (by decide)
      have wx13 := (wx7.trans (WX.t p11)).trans (WX.o k13 e13 (by decide))
      have wy12 := (wy9.trans (WY.p q10)).trans (WY.o k12 e12 (by omega))
      refine j_sign 59 (by decide) (by decide) hX13 hY12 (fun c => t2c_some (t2_ifn1 (by decide) (t2_ifn2 (by decide) (t2_end (wq_bad wx13 wy12 1 c))))) (fun u15 u14 hlt hX15 hY14 p15 q14 => t2c_some (t2_if1 rfl (t2_if2 rfl ?_)))
      have wx15 := wx13.trans (WX.t p15)
      have wy14 := wy12.trans (WY.p q14)
      have hWS : WS p (12 * y + x) 0 (fun _ => 0) (fun _ => 0) (fun _ => 0) u15 u14 := by
        refine ⟨by omega, ?_, ?_, ?_, ?_, ?_, ?_, fun i hi => by omega⟩
        · rw [p15.I (by decide), e13, up_o (by decide), p11.I (by decide), p7.I (by decide), p5.I (by decide), e3, up_s, ev]
        · rw [p15.I (by decide), e13, up_s, Nat.mul_comm]
        · rw [p15.I (by decide), e13, up_o (by decide), p11.I (by decide), p7.I (by decide), p5.I (by decide), e3, up_o (by decide)]; exact z2
        · rw [q14.2 32 (by unfold nxF; omega), e12, up_o (by decide), q10.2 32 (by unfold nxF; omega), e9, up_o (by decide), q8.2 32 (by unfold nxF; omega), q6.2 32 (by unfold nxF; omega), e4, up_s, ev]
        · rw [q14.2 33 (by unfold nxF; omega), e12, up_s, Nat.add_comm]
        · rw [q14.2 34 (by unfold nxF; omega), e12, up_o (by decide), q10.2 34 (by unfold nxF; omega), e9, up_o (by decide), q8.2 34 (by unfold nxF; omega), q6.2 34 (by unfold nxF; omega), e4, up_o (by decide)]; exact z34
      have hp2 : p < ix (S 2) := by rw [e2, ix_nI (by omega)]; exact hp
      generalize 12 * y + x = t at hWS onr lt144
      clear e12 e13 e9 e18 e18' e33 e3 e4
      -- the LINES
      refine tp2_it (fun j s1 v1 _ v2 => s1 = nI j ∧ ∃ i dd ff mm, XQ n b lim m i v1 ∧ YS n b lim m i v2 ∧ WX w1 v1 ∧ WY w2 v2 ∧ WS p t j dd ff mm v1 v2) 31 (by omega) ⟨rfl, _, _, _, _, hX15, hY14, wx15, wy14, hWS⟩ (fun j s1 v1 s2 v2 hI => ?_)
      obtain ⟨es, i, dd, ff, mm, hXj, hYj, wxj, wyj, hWj⟩ := hI
      subst es
      obtain ⟨hL, c1, c2, c3, c4, c5, c6, c7⟩ := hWj
      show t2 _ _ _
      refine t2_if1 (show nI j ≤ nI 30 from nle hL (by omega)) (t2_e1 (x_atEnd hXj.1) ?_)
      have hi : i ≤ m := hXj.1.2.1
      by_cases hq : i = m
      · refine t2_if1 (decide_eq_true hq) ?_
        by_cases hl : lim < n
        · refine t2_e1 ((x_ends hXj.1).trans (if_neg (fun z => z.2 hl))) (t2_ifn2 (fun z => ((y_atEnd hYj.1).mp z).2 hl) (t2_2 (y_dirHere hYj.1 hT) (fun v4 w5 hv4 => ?_)))
          obtain ⟨ew5, hv4⟩ := hv4
          rw [ew5]
          have ev4 : v4 = -1 := by
            rcases hv4 with ⟨d2, hd2, e, hw2⟩ | ⟨e, -⟩
            · have := hw2.1
              unfold tkA at this
              rw [if_neg (by omega)] at this
              cases this
            · exact e
          rw [ev4]
          exact t2_if2 (by decide) (t2_e2 (y_bad hYj.1 1) (t2_end (wq_bad wxj wyj 1 _)))
        · refine t2_e1 ((x_ends hXj.1).trans (if_pos ⟨hq, hl⟩)) (t2_if2 ((y_atEnd hYj.1).mpr ⟨hq, hl⟩) (t2_end ?_))
          exact ⟨wxj, wyj, Or.inr ⟨rfl, rfl, hXj.2, hYj.2.2.2, p, t, j, dd, ff, mm, hp2, onr, hL, c1, c2, c3, c4, c5, c6, c7⟩⟩
      · refine t2_ifn1 (by rw [decide_eq_false hq]; decide) (t2_ifn2 (fun z => hq ((y_atEnd hYj.1).mp z).1) ?_)
        unfold sh_131
        refine t2c_lt (t2c_cl (t2_1 (x_dirHere hXj.1) (fun v v3 hv => ?_)))
        obtain ⟨ew3, hv⟩ := hv
        rw [ew3]
        refine t2_2 (y_dirHere hYj.1 hT) (fun v4 w5 hv4 => ?_)
        obtain ⟨ew5, hv4⟩ := hv4
        rw [ew5]
        rcases hv with ⟨d, hd, ev, hw⟩ | ⟨ev, hno⟩
        · have ev4 : v4 = nI d := by
            rcases hv4 with ⟨d2, hd2, e, hw2⟩ | ⟨e, hno⟩
            · rw [e, show d2 = d by have := wdL_inj (6 + d2) (by omega) (6 + d) (by omega) (hw2.2.symm.trans hw.2); omega]
            · exact absurd hw (hno d hd)
          rw [ev, ev4, c3, c6]
          refine t2c_ifn (n_m1 (by omega)) (t2c_if (n0le (by omega)) (t2_ifn2 (show ¬ nI d < nI 0 from nnlt (by omega) (by omega)) ?_))
          by_cases h30 : j = 30
          · subst h30
            exact t2c_if (by decide) (t2c_cl (t2_if2 (by decide) (j_bad hXj hYj 4 (fun c => t2c_some (t2_ifn1 (by decide) (t2_end (wq_bad wxj wyj 4 c)))))))
          · have hib : ib (nI j) 30 = true := ib_nI (by omega) (by decide)
            refine t2c_ifn (show ¬ nI 30 ≤ nI j from nnle (by omega) (by omega)) (t2c_cl (t2_ifn2 (n_ne (b := 30) h30 (by omega) (by decide)) (j_go hXj hYj (fun u1 u2 hX1 hY1 p1 q1 => ?_))))
            refine t2c_gd hib (t2c_g (fun u3 e3 k3 => t2c_cl ?_))
            rw [q1.2 34 (by unfold nxF; omega), c6, l3, nI_m]
            refine t2_gd2 (ib_nI (by omega) (by decide)) (t2_g2 (fun u4 e4 k4 => ?_))
            rw [ix_nI (by omega)] at e3 e4
            have hX3 : XQ n b lim m _ u3 := hX1.kp k3 (fun q h1 h2 => by omega)
            have hY4 : YS n b lim m _ u4 := hY1.kp k4 (by decide) (by decide) (by decide)
            have wx3 := (wxj.trans (WX.t p1)).trans (WX.r k3 (by decide) (by decide))
            have wy4 := (wyj.trans (WY.p q1)).trans (WY.r k4)
            refine j_take 1 11 (by decide) (by decide) hX3 hY4 (fun f c => ?_) (fun fv u5 u6 f1 f2 hX5 hY6 e18 p5 q6 => ?_)
            · refine t2c_gd hib (t2c_g (fun u7 e7 k7 => t2c_gd hib ?_))
              rw [e7, up_s]
              exact t2c_if rfl (t2c_some (t2_ifn1 (by decide) (t2_ifn2 (by decide) (t2_end (wq_bad2 (f := f) (a := c) (v1 := u3) (v2 := u4) ((WX_bad wx3 f c).trans (WX.r k7 (by decide) (by decide))) (WY_bad wy4 f c) (by rw [k7.I (by decide)]) rfl)))))
            · refine t2c_gd hib (t2c_g (fun u7 e7 k7 => t2c_gd hib ?_))
              rw [e7, up_s]
              refine t2c_ifn (n_m1 (by omega)) (t2c_cl (t2_if2 rfl ?_))
              rw [q6.2 34 (by unfold nxF; omega), k4.I (by decide), q1.2 34 (by unfold nxF; omega), c6, show nI 3 * nI j + 1 = nI (3 * j + 1) by rw [nI_m, l1, nI_p], e18]
              refine t2_gd2 (ib_nI (by omega) (by decide)) (t2_g2 (fun u8 e8 k8 => ?_))
              rw [ix_nI (by omega)] at e7 e8
              have hX7 : XQ n b lim m _ u7 := hX5.kp k7 (fun q h1 h2 => by omega)
              have hY8 : YS n b lim m _ u8 := hY6.kp k8 (by decide) (by decide) (by decide)
              have wx7 := (wx3.trans (WX.t p5)).trans (WX.r k7 (by decide) (by decide))
              have wy8 := (wy4.trans (WY.p q6)).trans (WY.r k8)
              refine j_take 1 99 (by decide) (by decide) hX7 hY8 (fun f c => ?_) (fun mv u9 u10 m1 m2 hX9 hY10 e18' p9 q10 => ?_)
              · refine t2c_gd hib (t2c_g (fun u11 e11 k11 => t2c_gd hib ?_))
                rw [e11, up_s]
                exact t2c_if rfl (t2c_some (t2_ifn1 (by decide) (t2_ifn2 (by decide) (t2_end (wq_bad2 (f := f) (a := c) (v1 := u7) (v2 := u8) ((WX_bad wx7 f c).trans (WX.r k11 (by decide) (by decide))) (WY_bad wy8 f c) (by rw [k11.I (by decide)]) rfl)))))
              · refine t2c_gd hib (t2c_g (fun u11 e11 k11 => t2c_gd hib ?_))
                rw [e11, up_s]
                refine t2c_ifn (n_m1 (by omega)) (t2c_g (fun u13 e13 k13 => t2c_some (t2_if1 rfl (t2_if2 rfl ?_))))
                rw [q10.2 34 (by unfold nxF; omega), k8.I (by decide), q6.2 34 (by unfold nxF; omega), k4.I (by decide), q1.2 34 (by unfold nxF; omega), c6, show nI 3 * nI j + 2 = nI (3 * j + 2) by rw [nI_m, l2, nI_p], e18']
                refine t2_gd2 (ib_nI (by omega) (by decide)) (t2_g2 (fun u12 e12 k12 => ?_))
                rw [ix_nI (by omega)] at e11 e12
                have hX13 : XQ n b lim m _ u13 := (hX9.kp k11 (fun q h1 h2 => by omega)).kp k13 (fun q h1 h2 => by omega)
                have hY12 : YS n b lim m _ u12 := hY10.kp k12 (by decide) (by decide) (by decide)
                have wx13 := ((wx7.trans (WX.t p9)).trans (WX.r k11 (by decide) (by decide))).trans (WX.o k13 e13 (by decide))
                have wy12 := (wy8.trans (WY.p q10)).trans (WY.r k12)
                refine j_sign 59 (by decide) (by decide) hX13 hY12 (fun c => t2_ifn1 (by decide) (t2_ifn2 (by decide) (t2_end (wq_bad wx13 wy12 1 c)))) (fun u15 u14 hlt hX15 hY14 p15 q14 => t2_if1 rfl (t2_lt1 (t2_if2 rfl (t2_h2 (fun u16 e16 k16 l16 => t2_end ?_)))))
                have hY16 : YS n b lim m _ u16 := hY14.up k16 e16 l16 (by decide)
                have x61 : wI u15 61 = up (wI v1 61) j (nI d) := by rw [p15.I (by decide), k13.I (by decide), k11.I (by decide), p9.I (by decide), k7.I (by decide), p5.I (by decide), show wI u3 61 = wI u3 (60 + 1) from rfl, e3, show wI u1 (60 + 1) = wI v1 61 from p1.I (by decide)]
                have x62 : wI u15 62 = up (wI v1 62) j (nI fv) := by rw [p15.I (by decide), k13.I (by decide), k11.I (by decide), p9.I (by decide), show wI u7 62 = wI u7 (60 + 2) from rfl, e7, show wI u5 (60 + 2) = wI u3 62 from p5.I (by decide), k3.I (by decide), p1.I (by decide)]
                have x63 : wI u15 63 = up (wI v1 63) j (nI mv) := by rw [p15.I (by decide), k13.I (by decide), show wI u11 63 = wI u11 (60 + 3) from rfl, e11, show wI u9 (60 + 3) = wI u7 63 from p9.I (by decide), k7.I (by decide), p5.I (by decide), k3.I (by decide), p1.I (by decide)]
                have x60 : wI u15 60 = up (wI v1 60) 2 (nI (j + 1)) := by
                  have : wI u11 60 = wI v1 60 := by rw [k11.I (by decide), p9.I (by decide), k7.I (by decide), p5.I (by decide), k3.I (by decide), p1.I (by decide)]
                  rw [p15.I (by decide), e13, this, c3, nI_s]
                have y170 : wI u16 170 = up (up (up (wI v2 170) (3 * j) (nI d)) (3 * j + 1) (nI fv)) (3 * j + 2) (nI mv) := by
                  rw [k16.I (by decide), q14.1.I (by decide), show wI u12 170 = wI u12 (166 + 4) from rfl, e12, show wI u10 (166 + 4) = wI u8 (166 + 4) from q10.1.I (by decide), e8, show wI u6 (166 + 4) = wI u4 (166 + 4) from q6.1.I (by decide), e4, show wI u2 (166 + 4) = wI v2 170 from q1.1.I (by decide)]
                have y166 : ∀ j, j = 32 ∨ j = 33 ∨ j = 34 → wI u14 166 j = wI v2 166 j := fun j hj => by
                  rw [q14.2 j (by unfold nxF; omega), k12.I (by decide), q10.2 j (by unfold nxF; omega), k8.I (by decide), q6.2 j (by unfold nxF; omega), k4.I (by decide), q1.2 j (by unfold nxF; omega)]
                refine ⟨by omega, by rw [nI_s], _, fun i => if i = j then d else dd i, fun i => if i = j then fv else ff i, fun i => if i = j then mv else mm i, hX15, hY16, wx13.trans (WX.t p15), (wy12.trans (WY.p q14)).trans (WY.o k16 e16 (by omega)), by omega, ?_, ?_, ?_, ?_, ?_, ?_, fun i hi => ?_⟩
                · rw [x60, up_o (by decide)]; exact c1
                · rw [x60, up_o (by decide)]; exact c2
                · rw [x60, up_s]
                · rw [e16, up_o (by decide), y166 32 (by omega)]; exact c4
                · rw [e16, up_o (by decide), y166 33 (by omega)]; exact c5
                · rw [e16, up_s, y166 34 (by omega), c6, nI_s]
                · dsimp only
                  rw [x61, x62, x63, y170]
                  by_cases y : i = j
                  · subst y
                    rw [if_pos rfl, if_pos rfl, if_pos rfl, up_s, up_s, up_s, up_o (by omega), up_o (by omega), up_s, up_o (by omega), up_s, up_s]
                    exact ⟨hd, ⟨f1, f2⟩, ⟨m1, m2⟩, rfl, rfl, rfl, rfl, rfl, rfl⟩
                  · rw [if_neg y, if_neg y, if_neg y, up_o y, up_o y, up_o y, up_o (by omega), up_o (by omega), up_o (by omega), up_o (by omega), up_o (by omega), up_o (by omega), up_o (by omega), up_o (by omega), up_o (by omega)]
                    exact c7 i (by omega)
        · have ev4 : v4 = -1 := by
            rcases hv4 with ⟨d2, hd2, e, hw2⟩ | ⟨e, -⟩
            · exact absurd hw2 (hno d2 hd2)
            · exact e
          rw [ev, ev4]
          exact t2c_if rfl (t2c_cl (t2_if2 (by decide) (j_bad hXj hYj 1 (fun c => t2c_some (t2_ifn1 (by decide) (t2_end (wq_bad wxj wyj 1 c)))))))
  · refine t2_e1 (x_name_no hX.1 ho) (t2c_if rfl (t2c_some (t2_ifn1 (by decide) (t2_ifn2 (fun z => ho (hv.mp z)) (t2_e2 (y_bad hY.1 1) (t2_end (wq_bad WX.refl WY.refl 1 _)))))))
end WR
