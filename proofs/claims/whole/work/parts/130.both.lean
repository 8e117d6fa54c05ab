/-! steps of both sides together -/
def t2 {α β : Type} (m1 : Option (α × Wd)) (m2 : Option (β × Wd)) (Q : α → Wd → β → Wd → Prop) : Prop := tp m1 (fun r1 w1 => tp m2 (Q r1 w1))
def PX (w w' : Wd) : Prop := Kp (fun q => q = 1) w w'
def PY (w w' : Wd) : Prop := Kp (fun q => q = 166) w w' ∧ Fm (fun j => nxF j ∨ j = 18) w w'
section T2
variable {α β γ : Type} {m1 : Option (α × Wd)} {m2 : Option (β × Wd)} {Q : α → Wd → β → Wd → Prop} {w : Wd}
theorem t2_end {r1 : α} {w1 : Wd} {r2 : β} {w2 : Wd} (h : Q r1 w1 r2 w2) : t2 (some (r1, w1)) (some (r2, w2)) Q := ⟨r1, w1, rfl, r2, w2, rfl, h⟩
theorem t2_1 {m : Option (γ × Wd)} {f : γ → Wd → Option (α × Wd)} {P : γ → Wd → Prop} (h : tp m P) (k : ∀ r w', P r w' → t2 (f r w') m2 Q) : t2 (cl m f) m2 Q := tp_cl h k
theorem t2_2 {m : Option (γ × Wd)} {f : γ → Wd → Option (β × Wd)} {P : γ → Wd → Prop} (h : tp m P) (k : ∀ r w', P r w' → t2 m1 (f r w') Q) : t2 m1 (cl m f) Q := by
  obtain ⟨r, w', e, h⟩ := h
  rw [cl_e e]
  exact k r w' h
theorem t2_e1 {m : Option (γ × Wd)} {f : γ → Wd → Option (α × Wd)} {r : γ} {w' : Wd} (e : m = some (r, w')) (k : t2 (f r w') m2 Q) : t2 (cl m f) m2 Q := by rw [cl_e e]; exact k
theorem t2_e2 {m : Option (γ × Wd)} {f : γ → Wd → Option (β × Wd)} {r : γ} {w' : Wd} (e : m = some (r, w')) (k : t2 m1 (f r w') Q) : t2 m1 (cl m f) Q := by rw [cl_e e]; exact k
theorem t2_if1 {c : Prop} [Decidable c] {a b : Option (α × Wd)} (h : c) (k : t2 a m2 Q) : t2 (if c then a else b) m2 Q := by rw [if_pos h]; exact k
theorem t2_ifn1 {c : Prop} [Decidable c] {a b : Option (α × Wd)} (h : ¬ c) (k : t2 b m2 Q) : t2 (if c then a else b) m2 Q := by rw [if_neg h]; exact k
theorem t2_if2 {c : Prop} [Decidable c] {a b : Option (β × Wd)} (h : c) (k : t2 m1 a Q) : t2 m1 (if c then a else b) Q := by rw [if_pos h]; exact k
theorem t2_ifn2 {c : Prop} [Decidable c] {a b : Option (β × Wd)} (h : ¬ c) (k : t2 m1 b Q) : t2 m1 (if c then a else b) Q := by rw [if_neg h]; exact k
theorem t2_gd1 {b : Bool} (h : b = true) (k : t2 m1 m2 Q) : t2 (gd b m1) m2 Q := by rw [gd_t h]; exact k
theorem t2_gd2 {b : Bool} (h : b = true) (k : t2 m1 m2 Q) : t2 m1 (gd b m2) Q := by rw [gd_t h]; exact k
theorem t2_lt1 {x : γ} {f : γ → Option (α × Wd)} (k : t2 (f x) m2 Q) : t2 (lt x f) m2 Q := k
theorem t2_lt2 {x : γ} {f : γ → Option (β × Wd)} (k : t2 m1 (f x) Q) : t2 m1 (lt x f) Q := k
theorem t2_s1 {o j : Nat} {v : Int32} {f : Wd → Option (α × Wd)} (k : t2 (f (sI w o j v)) m2 Q) : t2 (stI w o j v f) m2 Q := k
theorem t2_s2 {o j : Nat} {v : Int32} {f : Wd → Option (β × Wd)} (k : t2 m1 (f (sI w o j v)) Q) : t2 m1 (stI w o j v f) Q := k
theorem t2_g1 {o j : Nat} {v : Int32} {f : Wd → Option (α × Wd)} (k : ∀ w1, wI w1 o = up (wI w o) j v → Kp (fun a => a = o) w w1 → t2 (f w1) m2 Q) : t2 (stI w o j v f) m2 Q := k _ wI_up (kp0 rfl)
theorem t2_g2 {o j : Nat} {v : Int32} {f : Wd → Option (β × Wd)} (k : ∀ w1, wI w1 o = up (wI w o) j v → Kp (fun a => a = o) w w1 → t2 m1 (f w1) Q) : t2 m1 (stI w o j v f) Q := k _ wI_up (kp0 rfl)
theorem t2_gL1 {o j : Nat} {v : Int64} {f : Wd → Option (α × Wd)} (k : ∀ w1, (∀ i, wL w1 o i = if i = j then v else wL w o i) → Kp (fun a => a = o) w w1 → wI w1 = wI w → t2 (f w1) m2 Q) : t2 (stL w o j v f) m2 Q := k _ (fun _ => wL_up) (Kp.sL (P := fun a => a = o) Kp.refl rfl _ _) rfl
end T2
theorem PX.trans {w w' w2 : Wd} (h : PX w w') (h2 : PX w' w2) : PX w w2 := Kp.trans h h2
theorem PY.trans {w w' w2 : Wd} (h : PY w w') (h2 : PY w' w2) : PY w w2 := ⟨h.1.trans h2.1, fun j hj => (h2.2 j hj).trans (h.2 j hj)⟩
theorem PY.fy {w w' : Wd} (h : PY w w') : FY w w' := FY.f h.1 h.2 (fun j hj => by unfold lyF; unfold nxF at *; omega)
theorem DH.pp {S : Nat → Int32} {o : Nat} {wx wy wx' wy' : Wd} (h : DH S o wx wy) (ho : 6 ≤ o) (hx : PX wx wx') (hy : PY wy wy') : DH S o wx' wy' := h.kp ho hx hy.1 hy.2 (by unfold nxF; omega) (by unfold nxF; omega)
section JJ
variable {α β : Type} {Q : α → Wd → β → Wd → Prop} {n lim m i o p : Nat} {b : Nat → Nat} {S : Nat → Int32} {w1 w2 : Wd}
theorem j_go {F : Unit → Wd → Option (α × Wd)} {G : Unit → Wd → Option (β × Wd)} (hX : XQ n b lim m i w1) (hY : YS n b lim m i w2) (k : ∀ v1 v2, XQ n b lim m (nextN m i) v1 → YS n b lim m (nextN m i) v2 → PX w1 v1 → PY w2 v2 → t2 (F () v1) (G () v2) Q) : t2 (cl (sh_37 1 w1) F) (cl (sh_191 166 w2) G) Q :=
  t2_1 (xq_go hX) (fun _ v1 g1 => t2_2 (ys_go hY hX.1.1.2.2.2.1) (fun _ v2 g2 => k v1 v2 g1.1 g2.1 g1.2.1 ⟨g2.2.1, fun j hj => g2.2.2 j (fun q => hj (Or.inl q))⟩))
theorem j_bad {F : Bool → Wd → Option (α × Wd)} {G : Bool → Wd → Option (β × Wd)} (hX : XQ n b lim m i w1) (hY : YS n b lim m i w2) (f : Int32) (k : ∀ a, t2 (F false (xBad f a w1)) (G false (yBad f a w2)) Q) : t2 (cl (sh_36 1 f w1) F) (cl (sh_197 166 f w2) G) Q :=
  t2_e1 (x_bad hX.1 f) (t2_e2 (y_bad hY.1 f) (k (atB n b lim m i)))
theorem j_take {F : Int32 → Wd → Option (α × Wd)} {G : Bool → Wd → Option (β × Wd)} (lo hi : Nat) (h1 : lo < 1000) (h2 : hi < 1000) (hX : XQ n b lim m i w1) (hY : YS n b lim m i w2) (kno : ∀ f a, t2 (F (-1) (xBad f a w1)) (G false (yBad f a w2)) Q) (kok : ∀ v v1 v2, lo ≤ v → v ≤ hi → XQ n b lim m (nextN m i) v1 → YS n b lim m (nextN m i) v2 → wI v2 166 18 = nI v → PX w1 v1 → PY w2 v2 → t2 (F (nI v) v1) (G true v2) Q) : t2 (cl (sh_38 1 (nI lo) (nI hi) w1) F) (cl (sh_198 166 (nI lo) (nI hi) w2) G) Q := by
  have hT := hX.1.1.2.2.2.1
  by_cases k1 : numOk (tkA n b m i) (nI lo) (nI hi)
  · have r := numOk_r k1 (tkA_num k1.1) h1 h2
    refine t2_1 (xq_take hX k1) (fun v v1 g1 => t2_2 (ys_take hY hT k1) (fun q v2 g2 => ?_))
    obtain ⟨e1, g11, g12, -⟩ := g1
    obtain ⟨e2, e18, g21, g22⟩ := g2
    rw [e1, e2]
    exact kok _ v1 v2 r.1 r.2 g11 g21 e18 g12 g22
  · exact t2_e1 (x_take_no hX.1 (n0le (by omega)) k1) (t2_e2 (y_take_no hY.1 k1) (kno _ _))
theorem wf_xy {W H x y : Nat} (e0 : S 0 = nI W) (e1 : S 1 = nI H) (hW : W ≤ 12) (hH : H ≤ 12) (hx : x < 1000) (hy : y < 1000) (k1 : nI x ≤ nI W - 1) (k2 : nI y ≤ nI H - 1) : onR S (12 * y + x) ∧ 12 * y + x < 144 := by
  have key : ∀ a A : Nat, a < 1000 → A ≤ 12 → nI a ≤ nI A - 1 → a < A := by
    intro a A ha hA k
    rcases A with _ | A
    · rw [i_le, i_nI (by omega)] at k
      have : (nI 0 - 1 : Int32).toInt = -1 := by decide
      omega
    · rw [nI_pred] at k
      have := (nI_leI (by omega) (by omega)).mp k
      omega
  have a1 := key x W hx hW k1
  have a2 := key y H hy hH k2
  refine ⟨⟨?_, ?_⟩, by omega⟩
  · rw [e0, ix_nI (by omega)]; omega
  · rw [e1, ix_nI (by omega)]; omega
theorem j_xy {F : Int32 → Wd → Option (α × Wd)} {G : Bool → Wd → Option (β × Wd)} (hX : XQ n b lim m i w1) (hY : YS n b lim m i w2) (hD : DH S o w1 w2) (ho : 6 ≤ o) (kno : ∀ f a v1 v2, PX w1 v1 → PY w2 v2 → t2 (F (-1) (xBad f a v1)) (G false (yBad f a v2)) Q) (kok : ∀ t v1 v2, onR S t → t < 144 → XQ n b lim m (nextN m i) v1 → YS n b lim m (nextN m i) v2 → wI v2 166 18 = nI t → PX w1 v1 → PY w2 v2 → t2 (F (nI t) v1) (G true v2) Q) : t2 (cl (sh_46 p o w1) F) (cl (sh_203 166 w2) G) Q := by
  have hT := hX.1.1.2.2.2.1
  obtain ⟨W, H, e0, e1, hW, hH⟩ := hD.2.1.1
  have eW : wI w1 o 0 = nI W := hD.2.2.1.1.trans e0
  have eH : wI w1 o 1 = nI H := hD.2.2.1.2.1.trans e1
  have eW2 : wI w2 169 0 = nI W := by rw [hD.1]; exact e0
  have eH2 : wI w2 169 1 = nI H := by rw [hD.1]; exact e1
  by_cases k1 : numOk (tkA n b m i) 0 (nI W - 1)
  · by_cases k2 : numOk (tkA n b m (nextN m i)) 0 (nI H - 1)
    · have r := wf_xy e0 e1 hW hH (tkA_num k1.1) (tkA_num k2.1) k1.2.2 k2.2.2
      refine t2_1 (x_xy_ok hX.1 (by omega) eW eH k1 k2) (fun v v1 g1 => t2_2 (y_xy_ok hY.2.1 hY.1 hT eW2 eH2 hH k1 k2) (fun q v2 g2 => ?_))
      obtain ⟨e1, g11, g12, g13⟩ := g1
      obtain ⟨e2, e18, g21, g22, g23, g24⟩ := g2
      rw [e1, e2]
      exact kok _ v1 v2 r.1 r.2 ⟨g11, by rw [g13 2 (by decide)]; exact hX.2⟩ ⟨g21, g22, by unfold WRD; rw [g23.L (by decide)]; exact hY.2.2.1, by rw [g24 15 (by unfold nxF; omega)]; exact hY.2.2.2⟩ e18 g12 ⟨g23, g24⟩
    · refine t2_1 (x_xy_no2 hX.1 (by omega) eW eH k1 k2) (fun v v1 g1 => t2_2 (y_xy_no2 hY.2.1 hY.1 hT eW2 eH2 hH k1 k2) (fun q v2 g2 => ?_))
      obtain ⟨e1, u1, f1, -, g12, -⟩ := g1
      obtain ⟨e2, u2, f2, -, -, g22, g23⟩ := g2
      rw [e1, e2, f1, f2]
      exact kno _ _ u1 u2 g12 ⟨g22, g23⟩
  · exact t2_e1 (x_xy_no1 hX.1 eW k1) (t2_e2 (y_xy_no1 hY.1 eW2 k1) (kno _ _ w1 w2 Kp.refl ⟨Kp.refl, fun _ _ => rfl⟩))
theorem j_fresh {F : Int64 → Wd → Option (α × Wd)} {G : Bool → Wd → Option (β × Wd)} {s : Nat} (hs : s < 24) (hX : XQ n b lim m i w1) (hY : YS n b lim m i w2) (hD : DH S o w1 w2) (kno : ∀ f a, t2 (F (-1) (xBad f a w1)) (G false (yBad f a w2)) Q) (kok : ∀ l v1 v2, okL l → XQ n b lim m (nextN m i) v1 → YS n b lim m (nextN m i) v2 → PX w1 v1 → Kp (fun q => q = 166) (sL w2 171 s (lN (en8 l))) v2 → Fm nxF w2 v2 → t2 (F (lN (en5 l)) v1) (G true v2) Q) : t2 (cl (sh_41 p o w1) F) (cl (sh_200 166 (nI s) w2) G) Q := by
  have hT := hX.1.1.2.2.2.1
  obtain ⟨P, e2, hP⟩ := hD.2.1.2.1
  obtain ⟨Y, e3, hY6⟩ := hD.2.1.2.2.1
  have x3 : wI w1 o 3 = nI P := hD.2.2.1.2.2.1.trans e2
  have x4 : wI w1 o 4 = nI Y := hD.2.2.1.2.2.2.1.trans e3
  have y2 : wI w2 169 2 = nI P := by rw [hD.1]; exact e2
  have y3 : wI w2 169 3 = nI Y := by rw [hD.1]; exact e3
  obtain ⟨nm1, nm2⟩ := hD.2.2.2.1
  rw [e2, ix_nI (by omega)] at nm1
  rw [e3, ix_nI (by omega)] at nm2
  have ef : ∃ f : Nat → List Nat, ∀ k, k < P → okL (f k) ∧ wL w1 (o + 4) k = lN (en5 (f k)) ∧ wL w2 171 (12 + k) = lN (en8 (f k)) := by
    refine ⟨fun k => if h : k < P then Classical.choose (nm1 k h) else [], fun k hk => ?_⟩
    have q := Classical.choose_spec (nm1 k hk)
    simp only [dif_pos hk]
    exact ⟨⟨q.1, q.2.1, q.2.2.1⟩, q.2.2.2⟩
  have eg : ∃ f : Nat → List Nat, ∀ k, k < Y → okL (f k) ∧ wL w1 (o + 5) k = lN (en5 (f k)) ∧ wL w2 171 (12 + (6 + k)) = lN (en8 (f k)) := by
    refine ⟨fun k => if h : k < Y then Classical.choose (nm2 k h) else [], fun k hk => ?_⟩
    have q := Classical.choose_spec (nm2 k hk)
    simp only [dif_pos hk]
    exact ⟨⟨q.1, q.2.1, q.2.2.1⟩, q.2.2.2⟩
  obtain ⟨f, hf⟩ := ef
  obtain ⟨g, hg⟩ := eg
  have hf1 : ∀ k, k < P → okL (f k) ∧ wL w1 (o + 4) k = lN (en5 (f k)) := fun k hk => ⟨(hf k hk).1, (hf k hk).2.1⟩
  have hf2 : ∀ k, k < P → okL (f k) ∧ wL w2 171 (12 + k) = lN (en8 (f k)) := fun k hk => ⟨(hf k hk).1, (hf k hk).2.2⟩
  have hg1 : ∀ k, k < Y → okL (g k) ∧ wL w1 (o + 5) k = lN (en5 (g k)) := fun k hk => ⟨(hg k hk).1, (hg k hk).2.1⟩
  have hg2 : ∀ k, k < Y → okL (g k) ∧ wL w2 171 (18 + k) = lN (en8 (g k)) := fun k hk => ⟨(hg k hk).1, by rw [show 18 + k = 12 + (6 + k) by omega]; exact (hg k hk).2.2⟩
  rcases Classical.em (nmOk (tkA n b m i) ∧ newL P Y f g (tkA n b m i).2) with hn | hn
  · refine t2_1 (x_fresh_ok hX.1 x3 hP hf1 x4 hY6 hg1 hn.1 hn.2) (fun v v1 g1 => t2_2 (y_fresh_ok hY.2.1 hY.1 hT hY.2.2.1 hs y2 hP hf2 y3 hY6 hg2 hn.1 hn.2) (fun q v2 g2 => ?_))
    obtain ⟨e1, g11, g12, g13⟩ := g1
    obtain ⟨e2, u, eu, h1, h2, h3, h4⟩ := g2
    subst eu
    rw [e1, e2]
    exact kok _ v1 v2 (tkA_wd hT hn.1.1) ⟨g11, by rw [g13 2 (by decide)]; exact hX.2⟩ ⟨h1, h2, by unfold WRD; rw [h3.L (by decide), wL_row (by decide)]; exact hY.2.2.1, by rw [h4 15 (by unfold nxF; omega)]; exact hY.2.2.2⟩ g12 h3 h4
  · exact t2_1 (x_fresh_no hX.1 x3 hP hf1 x4 hY6 hg1 hn) (fun v v1 g1 => t2_2 (y_fresh_no hY.1 hT hY.2.2.1 y2 hP hf2 y3 hY6 hg2 hn) (fun q v2 g2 => by
      rw [g1.1, g1.2, g2.1, g2.2]
      exact kno _ _))
end JJ
