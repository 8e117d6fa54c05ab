/-! both systems in one world: what holds of them between calls -/
def WU (S : Nat → Int32) (us : Nat → Nat → Int32) (n : Nat) : Prop := ∀ m, m < n → WR (us m) ∧ ∀ j, j < 429 → us m j = S j
def GS (w : Wd) : Prop := ∃ S f us n, XG S w ∧ XN S f w ∧ wI w 168 = S ∧ MN f w ∧ DS S ∧ XU us n w ∧ MU us n w ∧ WU S us n
def GK (w : Wd) : Prop := ∃ fl Z g, KX fl Z g w ∧ KM fl Z g w ∧ ∀ k, k < 2 → fl k = true → DS (Z k)
def GT (w : Wd) : Prop := ∃ n b, XT n b w ∧ MT n b w
def GW (w : Wd) : Prop := ∃ jd v, WKX jd v w ∧ WKM jd v w
def GL (w : Wd) : Prop := ∃ l, XL l w 67 ∧ ML l w
def GF (w : Wd) : Prop := wI w 1 2 = wI w 166 15
def GZ (w0 w : Wd) : Prop := wI w 1000 = wI w0 1000 ∧ wI w 1003 = wI w0 1003 ∧ wx w = wx w0
def SB (w0 w : Wd) : Prop := GZ w0 w ∧ WRD w ∧ GS w ∧ GK w ∧ GT w ∧ GW w ∧ GL w ∧ GF w ∧ RDR w w
section GG
variable {w0 w w' : Wd} {P : Nat → Prop}
theorem GZ.k (h : GZ w0 w) (K : Kp P w w') (h1 : ¬ P 1000) (h2 : ¬ P 1003) : GZ w0 w' := by
  refine ⟨?_, ?_, ?_⟩
  · rw [K.I h1]; exact h.1
  · rw [K.I h2]; exact h.2.1
  · rw [K.2.1]; exact h.2.2
theorem WRD.k2 (h : WRD w) (K : Kp P w w') (h1 : ¬ P 172) : WRD w' := by
  unfold WRD
  rw [K.L h1]
  exact h
theorem GS.k (h : GS w) (K : Kp P w w') (h1 : ∀ q, 7 ≤ q → q ≤ 42 → ¬ P q) (h2 : ¬ P 168) (h3 : ¬ P 171) (h4 : ∀ q, undP q → ¬ P q) (h5 : ¬ P 173) (e : wI w' 166 23 = wI w 166 23) : GS w' := by
  obtain ⟨S, f, us, n, a, b, c, d, g, x, y, z⟩ := h
  exact ⟨S, f, us, n, a.kp K h1, b.kp K (fun q x y => h1 q x (by omega)), (K.I h2).trans c, d.kp K h3, g, x.kp K h4, y.of e (K.I h5), z⟩
theorem GK.k (h : GK w) (K : Kp P w w') (h1 : ∀ q, q = 47 ∨ 122 ≤ q ∧ q ≤ 165 → ¬ P q) (h2 : ∀ q, 188 ≤ q → q ≤ 190 → ¬ P q) : GK w' := by
  obtain ⟨fl, Z, g, a, b, c⟩ := h
  exact ⟨fl, Z, g, a.kp K h1, b.kp K h2, c⟩
theorem GT.k (h : GT w) (K : Kp P w w') (e1 : wI w' 1 1 = wI w 1 1) (h2 : ¬ P 2) (e2 : wI w' 166 2 = wI w 166 2) (h3 : ¬ P 167) : GT w' := by
  obtain ⟨n, b, ⟨a1, a2, a3⟩, c1, c2⟩ := h
  refine ⟨n, b, ⟨a1, e1.trans a2, fun j hj => ?_⟩, e2.trans c1, fun j hj => ?_⟩
  · rw [K.I h2]; exact a3 j hj
  · rw [K.I h3]; exact c2 j hj
theorem GW.k (h : GW w) (K : Kp P w w') (h1 : ¬ P 60) (h2 : ¬ P 179) (e : wI w' 166 35 = wI w 166 35) : GW w' := by
  obtain ⟨jd, v, a, b⟩ := h
  refine ⟨jd, v, ?_, ?_⟩
  · unfold WKX
    rw [K.I h1]
    exact a
  · unfold WKM
    rw [K.I h2, e]
    exact b
theorem GL.k (h : GL w) (K : Kp P w w') (h1 : ¬ P 67) (h2 : ¬ P 73) (h3 : ¬ P 184) (e : wI w' 166 42 = wI w 166 42) : GL w' := by
  obtain ⟨l, ⟨a1, a2, a3⟩, c1, c2, c3⟩ := h
  refine ⟨l, ⟨a1, ?_, fun j hj => ?_⟩, c1, e.trans c2, fun j hj => ?_⟩
  · rw [K.I h1]; exact a2
  · show wI w' 73 j = _
    rw [K.I h2]; exact a3 j hj
  · rw [K.I h3]; exact c3 j hj
theorem GF.k (h : GF w) (e1 : wI w' 1 2 = wI w 1 2) (e2 : wI w' 166 15 = wI w 166 15) : GF w' := by
  unfold GF
  rw [e1, e2]
  exact h
theorem RDR.k {v v' : Wd} (h : RDR w v) (h1 : wI w' 48 = wI w 48) (h2 : wI w' 58 = wI w 58) (h3 : wI w' 59 = wI w 59) (h4 : wI v' 176 = wI v 176) (h5 : wI v' 177 = wI v 177) (e1 : wI v' 166 28 = wI v 166 28) (e2 : wI v' 166 29 = wI v 166 29) : RDR w' v' := by
  unfold RDR
  rw [h1, h2, h3, h4, h5, e1, e2]
  exact h
/-- a call that leaves all that is told -/
def quP (q : Nat) : Prop := q = 166 ∨ 64 ≤ q ∧ q ≤ 66 ∨ q = 178 ∨ q = 187 ∨ q = 191
theorem SB.quiet (h : SB w0 w) (K : Kp quP w w') (F : Fm (fun j => j = 0) w w') : SB w0 w' := by
  obtain ⟨a1, a2, a3, a5, a6, a7, a8, a9, a10⟩ := h
  have n : ∀ q, ¬ (q = 166 ∨ 64 ≤ q ∧ q ≤ 66 ∨ q = 178 ∨ q = 187 ∨ q = 191) → ¬ quP q := fun q h => h
  have F' : ∀ j, ¬ j = 0 → wI w' 166 j = wI w 166 j := F
  refine ⟨a1.k K (n _ (by omega)) (n _ (by omega)), a2.k2 K (n _ (by omega)), a3.k K (fun q x y => n _ (by omega)) (n _ (by omega)) (n _ (by omega)) (fun q x => n _ (by unfold undP at x; omega)) (n _ (by omega)) (F' 23 (by omega)), a5.k K (fun q x => n _ (by omega)) (fun q x y => n _ (by omega)), a6.k K (by rw [K.I (n 1 (by omega))]) (n _ (by omega)) (F' 2 (by omega)) (n _ (by omega)), a7.k K (n _ (by omega)) (n _ (by omega)) (F' 35 (by omega)), a8.k K (n _ (by omega)) (n _ (by omega)) (n _ (by omega)) (F' 42 (by omega)), a9.k (by rw [K.I (n 1 (by omega))]) (F' 15 (by omega)), a10.k (K.I (n _ (by omega))) (K.I (n _ (by omega))) (K.I (n _ (by omega))) (K.I (n _ (by omega))) (K.I (n _ (by omega))) (F' 28 (by omega)) (F' 29 (by omega))⟩
theorem SB.z (h : SB w0 w) (v : Int32) : SB w0 (sI w 166 0 v) :=
  h.quiet (Kp.refl.sI (Or.inl rfl) 0 v) (fun j hj => wI_other hj)
/-- the class's call leaves the reference's objects -/
def FR (w w' : Wd) : Prop := ∀ q, 166 ≤ q → wI w' q = wI w q ∧ wL w' q = wL w q
/-- a call of each kind answers alike -/
def SC {α : Type} (w0 : Wd) (m1 m2 : Wd → Option (α × Wd)) : Prop := ∀ w, SB w0 w → ∃ r w1 w2, m1 w = some (r, w1) ∧ FR w w1 ∧ m2 w1 = some (r, w2) ∧ SB w0 w2
theorem sc_get {α : Type} {m1 m2 : Wd → Option (α × Wd)} (h : ∀ w, SB w0 w → ∃ r, m1 w = some (r, w) ∧ m2 w = some (r, sI w 166 0 0)) : SC w0 m1 m2 := by
  intro w hw
  obtain ⟨r, e1, e2⟩ := h w hw
  exact ⟨r, w, _, e1, (fun _ _ => ⟨rfl, rfl⟩), e2, hw.z 0⟩
theorem SB.gs (h : SB w0 w) : GS w := h.2.2.1
theorem SB.xs (h : SB w0 w) : ∃ S, XS S w ∧ WF S ∧ WR S ∧ wI w 168 = S := by
  obtain ⟨S, f, us, n, a, b, c, d, e, -, -, -⟩ := h.gs
  exact ⟨S, a.xs, a.1, a.2.1, c⟩
theorem c_fault : SC w0 (fun w => sh_63 0 w) (fun w => sh_209 166 w) := by
  refine sc_get (fun w h => ⟨wI w 1 2, rfl, ?_⟩)
  have : GF w := h.2.2.2.2.2.2.2.1
  show some (wI (sI w 166 0 0) 166 15, sI w 166 0 0) = _
  rw [wI_other (by decide), this]
theorem c_way (p i : Int32) : SC w0 (fun w => sh_64 0 p i w) (fun w => sh_220 166 p i w) :=
  sc_get (fun w h => by obtain ⟨S, a, b, c, d⟩ := h.xs; exact ⟨_, x_way a p i, y_way b d p i⟩)
theorem c_hidden (k : Int32) : SC w0 (fun w => sh_95 0 k w) (fun w => sh_233 166 k w) :=
  sc_get (fun w h => by obtain ⟨S, a, b, c, d⟩ := h.xs; exact ⟨_, x_hidden a k, y_hidden b c d k⟩)
theorem c_missing (k : Int32) : SC w0 (fun w => sh_98 0 k w) (fun w => sh_235 166 k w) :=
  sc_get (fun w h => by obtain ⟨S, a, b, c, d⟩ := h.xs; exact ⟨_, x_missing a k, y_missing b c d k⟩)
theorem c_soles (k : Int32) : SC w0 (fun w => sh_99 0 k w) (fun w => sh_236 166 k w) :=
  sc_get (fun w h => by obtain ⟨S, a, b, c, d⟩ := h.xs; exact ⟨_, x_soles a k, y_soles d k⟩)
theorem c_deepest : SC w0 (fun w => sh_101 0 w) (fun w => sh_237 166 w) :=
  sc_get (fun w h => by obtain ⟨S, a, b, c, d⟩ := h.xs; exact ⟨_, x_deepest a, y_deepest b c d⟩)
theorem c_who (k : Int32) : SC w0 (fun w => sh_103 0 k w) (fun w => sh_238 166 k w) :=
  sc_get (fun w h => by obtain ⟨S, a, b, c, d⟩ := h.xs; exact ⟨_, x_who a k, y_who b d k⟩)
theorem c_age (p k : Int32) : SC w0 (fun w => sh_105 0 p k w) (fun w => sh_240 166 p k w) :=
  sc_get (fun w h => by obtain ⟨S, a, b, c, d⟩ := h.xs; exact ⟨_, x_age a p k, y_age b d p k⟩)
theorem c_spot : SC w0 (fun w => sh_152 0 w) (fun w => sh_263 166 w) :=
  sc_get (fun w h => by obtain ⟨S, a, b, c, d⟩ := h.xs; exact ⟨_, x_spot a, y_spot b d⟩)
theorem c_ways (k : Int32) : SC w0 (fun w => sh_154 0 k w) (fun w => sh_266 166 k w) :=
  sc_get (fun w h => by obtain ⟨S, a, b, c, d⟩ := h.xs; exact ⟨_, x_ways a k, y_ways b d k⟩)
theorem c_both (p k : Int32) : SC w0 (fun w => sh_155 0 p k w) (fun w => sh_267 166 p k w) :=
  sc_get (fun w h => by obtain ⟨S, a, b, c, d⟩ := h.xs; exact ⟨_, x_both a p k, y_both b d p k⟩)
theorem c_rarest : SC w0 (fun w => sh_156 0 w) (fun w => sh_271 166 w) :=
  sc_get (fun w h => by obtain ⟨S, a, b, c, d⟩ := h.xs; exact ⟨_, x_rarest a, y_rarest b d⟩)
theorem c_count (k : Int32) : SC w0 (fun w => sh_179 0 k w) (fun w => sh_285 166 k w) :=
  sc_get (fun w h => by
    obtain ⟨S, a, b, c, d⟩ := h.xs
    obtain ⟨n, bb, t, u⟩ : GT w := h.2.2.2.2.1
    have e : wI w 1 1 = wI w 166 2 := t.2.1.trans u.1.symm
    refine ⟨_, x_count a k, ?_⟩
    rw [e]
    exact y_count d k)
theorem c_walked (k : Int32) : SC w0 (fun w => sh_136 0 k w) (fun w => sh_255 166 k w) :=
  sc_get (fun w h => by
    obtain ⟨jd, v, t, u⟩ : GW w := h.2.2.2.2.2.1
    exact ⟨_, x_walked t k, y_walked u k⟩)
theorem c_lay (k : Int32) : SC w0 (fun w => sh_150 0 k w) (fun w => sh_262 166 k w) :=
  sc_get (fun w h => by
    obtain ⟨l, t, u⟩ : GL w := h.2.2.2.2.2.2.1
    exact ⟨_, x_lay t k, y_lay u k⟩)
theorem c_read (p k : Int32) : SC w0 (fun w => sh_118 0 p k w) (fun w => sh_246 166 p k w) :=
  sc_get (fun w h => by
    obtain ⟨r1, w1, e1, r2, w2, e2, h1, h2, h3⟩ := j_118 h.2.2.2.2.2.2.2.2 p k
    subst h1 h2 h3
    exact ⟨_, e1, e2⟩)
theorem c_fewest : SC w0 (fun w => sh_120 0 w) (fun w => sh_247 166 w) :=
  sc_get (fun w h => by
    obtain ⟨r1, w1, e1, r2, w2, e2, h1, h2, h3⟩ := j_120 h.2.2.2.2.2.2.2.2
    subst h1 h2 h3
    exact ⟨_, e1, e2⟩)
theorem c_said (k : Int32) : SC w0 (fun w => sh_167 0 k w) (fun w => sh_279 166 k w) := by
  intro w h
  obtain ⟨S, f, us, n, a, b, c, d, e, -, -, -⟩ := h.gs
  obtain ⟨a', o, s, u, e2, e3, e4, e5, hao, hsu, hNm, hSR⟩ := b
  obtain ⟨v, w2, ey, hv, K, F⟩ := y_said (w := w) a.1 c hSR k
  refine ⟨v, w, w2, ?_, (fun _ _ => ⟨rfl, rfl⟩), ey, h.quiet (K.mono (fun q x => ?_)) F⟩
  · rw [hv]; exact x_said a e4 hSR k
  · unfold quP; omega
end GG
