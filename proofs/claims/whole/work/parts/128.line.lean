/-! two programs, each over a world of its own -/
def lpq2 {S1 S2 α β : Type} (A : S1 → Wd → S2 → Wd → Prop) (Q : α → Wd → β → Wd → Prop) : S1 ⊕ α → Wd → S2 ⊕ β → Wd → Prop := fun o1 w1 o2 w2 => match o1, o2 with
  | .inl a, .inl c => A a w1 c w2
  | .inr a, .inr c => Q a w1 c w2
  | .inl _, .inr _ => False
  | .inr _, .inl _ => False
theorem tp2_it {S1 S2 α β : Type} {b1 : S1 → Wd → Option ((S1 ⊕ α) × Wd)} {b2 : S2 → Wd → Option ((S2 ⊕ β) × Wd)} {Q : α → Wd → β → Wd → Prop} (I : Nat → S1 → Wd → S2 → Wd → Prop) (n : Nat) (hn : n < 1000000000000000) {s1 : S1} {w1 : Wd} {s2 : S2} {w2 : Wd} (h0 : I 0 s1 w1 s2 w2) (hs : ∀ j s1 w1 s2 w2, I j s1 w1 s2 w2 → tp (b1 s1 w1) (fun o1 v1 => tp (b2 s2 w2) (lpq2 (fun t1 v1 t2 v2 => j < n ∧ I (j + 1) t1 v1 t2 v2) Q o1 v1))) : tp (itM b1 FU s1 w1) (fun r1 v1 => tp (itM b2 FU s2 w2) (Q r1 v1)) := by
  have key : ∀ (m j : Nat) (s1 : S1) (w1 : Wd) (s2 : S2) (w2 : Wd), j ≤ n → n < j + m → I j s1 w1 s2 w2 → tp (itM b1 m s1 w1) (fun r1 v1 => tp (itM b2 m s2 w2) (Q r1 v1)) := by
    intro m
    induction m with
    | zero => intro j s1 w1 s2 w2 hj hm hI; omega
    | succ m ih =>
      intro j s1 w1 s2 w2 hj hm hI
      obtain ⟨r1, v1, e1, r2, v2, e2, h⟩ := hs j s1 w1 s2 w2 hI
      cases r1 with
      | inl t1 =>
        cases r2 with
        | inl t2 =>
          obtain ⟨x1, y1, f1, x2, y2, f2, g⟩ := ih (j + 1) t1 v1 t2 v2 (by have := h.1; omega) (by omega) h.2
          exact ⟨x1, y1, by rw [itM, e1]; exact f1, x2, y2, by rw [itM, e2]; exact f2, g⟩
        | inr t2 => exact h.elim
      | inr t1 =>
        cases r2 with
        | inl t2 => exact h.elim
        | inr t2 => exact ⟨t1, v1, by rw [itM, e1], t2, v2, by rw [itM, e2], h⟩
  exact key FU 0 s1 w1 s2 w2 (by omega) (by have := FU_gt hn; omega) h0
theorem tp_swap {α β : Type} {m1 : Option (α × Wd)} {m2 : Option (β × Wd)} {Q : α → Wd → β → Wd → Prop} (h : tp m1 (fun r1 w1 => tp m2 (fun r2 w2 => Q r1 w1 r2 w2))) : tp m2 (fun r2 w2 => tp m1 (fun r1 w1 => Q r1 w1 r2 w2)) := by
  obtain ⟨r1, w1, e1, r2, w2, e2, h⟩ := h
  exact ⟨r2, w2, e2, r1, w1, e1, h⟩
/-- a loop of two turns -/
theorem it_2 {S α : Type} {body : S → Wd → Option ((S ⊕ α) × Wd)} {Q : α → Wd → Prop} {s : S} {w : Wd} (h : tp (body s w) (lpQ (fun s1 w1 => tp (body s1 w1) (lpQ (fun s2 w2 => tp (body s2 w2) (lpQ (fun _ _ => False) Q)) Q)) Q)) : tp (itM body FU s w) Q := by
  refine tp_it (fun j s w => match j with
    | 0 => tp (body s w) (lpQ (fun s1 w1 => tp (body s1 w1) (lpQ (fun s2 w2 => tp (body s2 w2) (lpQ (fun _ _ => False) Q)) Q)) Q)
    | 1 => tp (body s w) (lpQ (fun s2 w2 => tp (body s2 w2) (lpQ (fun _ _ => False) Q)) Q)
    | 2 => tp (body s w) (lpQ (fun _ _ => False) Q)
    | _ => False) 3 (by omega) h (fun j s w hI => ?_)
  match j, hI with
  | 0, hI => exact tp_mono hI (fun r w' h' => by cases r with
    | inl s => exact ⟨by omega, h'⟩
    | inr r => exact h')
  | 1, hI => exact tp_mono hI (fun r w' h' => by cases r with
    | inl s => exact ⟨by omega, h'⟩
    | inr r => exact h')
  | 2, hI => exact tp_mono hI (fun r w' h' => by cases r with
    | inl s => exact h'.elim
    | inr r => exact h')
  | _ + 3, hI => exact hI.elim
theorem cl_id {α : Type} {m : Option (α × Wd)} : cl m (fun r w => some (r, w)) = m := by
  unfold cl
  rcases m with _ | ⟨r, w⟩
  · rfl
  · rfl
/-! the HOUSE being read, on both sides -/
def FX (o : Nat) (w w' : Wd) : Prop := Kp (fun q => q = 1 ∨ (o ≤ q ∧ q ≤ o + 9)) w w'
def lyF (j : Nat) : Prop := nxF j ∨ j = 18 ∨ j = 15 ∨ j = 16 ∨ j = 20 ∨ j = 21
def FY (w w' : Wd) : Prop := Kp (fun q => q = 166 ∨ q = 169 ∨ q = 171) w w' ∧ Fm lyF w w' ∧ ∀ i, i < 12 → wL w' 171 i = wL w 171 i
def FL (wx wy : Wd) : Prop := wI wx 1 2 = wI wy 166 15 ∧ wI wx 1 3 = wI wy 166 16
def YS (n : Nat) (b : Nat → Nat) (lim m i : Nat) (w : Wd) : Prop := MK n b lim m i w ∧ MB n b lim w ∧ WRD w ∧ wI w 166 15 = 0
def XQ (n : Nat) (b : Nat → Nat) (lim m i : Nat) (w : Wd) : Prop := XP n b lim m i w ∧ wI w 1 2 = 0
def DH (S : Nat → Int32) (o : Nat) (wx wy : Wd) : Prop := wI wy 169 = S ∧ WF S ∧ HR S wx o ∧ NM S wx o (fun i => wL wy 171 (12 + i)) ∧ DS S ∧ (wI wy 166 20 = 0 ↔ ¬ 0 < wI wx o 0) ∧ (wI wy 166 21 = 0 ↔ ¬ 0 < wI wx o 2) ∧ (wI wx o 2 = 0 ∨ 0 < wI wx o 2)
def LnS (n : Nat) (b : Nat → Nat) (lim m i : Nat) (S : Nat → Int32) (o : Nat) (wx wy : Wd) : Prop := XQ n b lim m i wx ∧ YS n b lim m i wy ∧ DH S o wx wy
/-- how a LINE ends: both on, both refused alike, or the class on ahead of what is no ; and the reference refused there -/
def LO (n : Nat) (b : Nat → Nat) (lim m i o : Nat) (wx wy : Wd) (r1 : Bool) (w1 : Wd) (r2 : Bool) (w2 : Wd) : Prop := FX o wx w1 ∧ FY wy w2 ∧ ((r1 = true ∧ r2 = true ∧ ∃ i' S', i < i' ∧ LnS n b lim m i' S' o w1 w2) ∨ (r1 = false ∧ r2 = false ∧ FL w1 w2) ∨ (r1 = true ∧ r2 = false ∧ ∃ i', XQ n b lim m i' w1 ∧ sgOk (tkA n b m i') 59 = false ∧ wI w2 166 15 = 1 ∧ wI w2 166 16 = nI (atB n b lim m i')))
section LI
variable {n lim m i o : Nat} {b : Nat → Nat} {S : Nat → Int32} {w w' w2 wx wy w1 : Wd}
theorem FX.refl : FX o w w := Kp.refl
theorem FX.trans (h : FX o w w') (h2 : FX o w' w2) : FX o w w2 := Kp.trans h h2
theorem FX.t (h : Kp (fun q => q = 1) w w') : FX o w w' := h.mono (fun _ q => Or.inl q)
theorem FX.d {k : Nat} (h : Kp (fun q => q = k) w w') (h1 : o ≤ k) (h2 : k ≤ o + 9) : FX o w w' := h.mono (fun q e => Or.inr (by subst e; exact ⟨h1, h2⟩))
theorem FY.refl : FY w w := ⟨Kp.refl, fun _ _ => rfl, fun _ _ => rfl⟩
theorem FY.trans (h : FY w w') (h2 : FY w' w2) : FY w w2 := ⟨h.1.trans h2.1, fun j hj => (h2.2.1 j hj).trans (h.2.1 j hj), fun i hi => (h2.2.2 i hi).trans (h.2.2 i hi)⟩
theorem FY.f {P : Nat → Prop} (h : Kp (fun q => q = 166) w w') (hF : Fm P w w') (hP : ∀ j, P j → lyF j) : FY w w' := ⟨h.mono (fun _ q => Or.inl q), fun j hj => hF j (fun q => hj (hP j q)), fun i _ => by rw [h.L (by decide)]⟩
theorem FY.h (h : Kp (fun q => q = 169) w w') : FY w w' := ⟨h.mono (fun _ q => Or.inr (Or.inl q)), fun j _ => by rw [h.I (by decide)], fun i _ => by rw [h.L (by decide)]⟩
theorem YS.same (h : YS n b lim m i w) (e1 : wI w' 166 = wI w 166) (e2 : wL w' 166 = wL w 166) (e3 : wI w' 167 = wI w 167) (e4 : wL w' 172 = wL w 172) : YS n b lim m i w' := by
  unfold YS MK MB WRD at *
  rw [e1, e2, e3, e4]
  exact h
theorem YS.kp {P : Nat → Prop} (h : YS n b lim m i w) (hK : Kp P w w') (h1 : ¬ P 166) (h2 : ¬ P 167) (h3 : ¬ P 172) : YS n b lim m i w' := h.same (hK.I h1) (hK.L h1) (hK.I h2) (hK.L h3)
theorem YS.f (h : YS n b lim m i w) {j : Nat} {v : Int32} (hj : ¬ j = 3 ∧ ¬ j = 4 ∧ ¬ j = 5 ∧ ¬ j = 11 ∧ ¬ j = 12 ∧ ¬ j = 14 ∧ ¬ j = 15) : YS n b lim m i (sI w 166 j v) := by
  obtain ⟨⟨a1, a2, a3, a4⟩, ⟨c1, c2, c3, c4, c5⟩, d⟩ := h
  refine ⟨⟨a1, by rw [wI_other (by omega)]; exact a2, fun q => ?_, fun q => ?_⟩, ⟨c1, c2, by rw [wI_other (by omega)]; exact c3, by rw [wI_other (by omega)]; exact c4, by rw [wI_row (by decide)]; exact c5⟩, d.1, by rw [wI_other (by omega)]; exact d.2⟩
  · rw [wI_other (by omega), wI_other (by omega), wI_other (by omega), wL_sI']; exact a3 q
  · rw [wI_other (by omega), wI_other (by omega)]; exact a4 q
theorem ys_go (h : YS n b lim m i w) (hT : TM n b (min n lim) m) : tp (sh_191 166 w) (fun _ w' => YS n b lim m (nextN m i) w' ∧ Kp (fun q => q = 166) w w' ∧ Fm nxF w w') :=
  tp_mono (y_go h.2.1 h.1 hT) (fun _ _ g => ⟨⟨g.1, g.2.1, by unfold WRD; rw [g.2.2.1.L (by decide)]; exact h.2.2.1, by rw [g.2.2.2 15 (by unfold nxF; omega)]; exact h.2.2.2⟩, g.2.2⟩)
theorem ys_take (h : YS n b lim m i w) (hT : TM n b (min n lim) m) {lo hi : Int32} (ho : numOk (tkA n b m i) lo hi) : tp (sh_198 166 lo hi w) (fun v w' => v = true ∧ wI w' 166 18 = nI ((tkA n b m i).2.headD 0) ∧ YS n b lim m (nextN m i) w' ∧ Kp (fun q => q = 166) w w' ∧ Fm (fun j => nxF j ∨ j = 18) w w') :=
  tp_mono (y_take h.2.1 h.1 hT ho) (fun _ _ g => ⟨g.1, g.2.1, ⟨g.2.2.1, g.2.2.2.1, by unfold WRD; rw [g.2.2.2.2.1.L (by decide)]; exact h.2.2.1, by rw [g.2.2.2.2.2 15 (by unfold nxF; omega)]; exact h.2.2.2⟩, g.2.2.2.2⟩)
theorem FL_bad (f : Int32) (a : Nat) : FL (xBad f a wx) (yBad f a wy) := by
  unfold FL xBad yBad
  rw [wI_same, wI_same, wI_other (by decide), wI_same, wI_other (by decide), wI_same]
  exact ⟨rfl, rfl⟩
theorem FX_bad (h : FX o wx w) (f : Int32) (a : Nat) : FX o wx (xBad f a w) := h.trans (FX.t ((kp0 (P := fun q => q = 1) rfl).sI rfl _ _))
theorem FY_bad (h : FY wy w) (f : Int32) (a : Nat) : FY wy (yBad f a w) := h.trans (FY.f (P := fun j => j = 15 ∨ j = 16) ((kp0 (P := fun q => q = 166) rfl).sI rfl _ _) (fun j hj => by unfold yBad; rw [wI_other (by omega), wI_other (by omega)]) (fun j hj => by unfold lyF; unfold nxF at *; omega))
theorem lo_bad (hx : FX o wx w1) (hy : FY wy w2) (f : Int32) (a : Nat) : LO n b lim m i o wx wy false (xBad f a w1) false (yBad f a w2) := ⟨FX_bad hx f a, FY_bad hy f a, Or.inr (Or.inl ⟨rfl, rfl, FL_bad f a⟩)⟩
theorem lo_on {i' : Nat} {S' : Nat → Int32} (hx : FX o wx w1) (hy : FY wy w2) (hi : i < i') (h : LnS n b lim m i' S' o w1 w2) : LO n b lim m i o wx wy true w1 true w2 := ⟨hx, hy, Or.inl ⟨rfl, rfl, i', S', hi, h⟩⟩
theorem nx_gt (hi : i < m) : i < nextN m i := by unfold nextN; rw [if_pos hi]; omega
theorem nx_ge : i ≤ nextN m i := by unfold nextN; split <;> omega
/-- the WORD at hand begins a LINE -/
theorem x_word (h : XP n b lim m i w) {j : Nat} (hj : j < 20) (hw : wdOk (tkA n b m i) j) : sh_33 1 w = some (some (1010 + j), w) := by
  refine tp_q (tp_mono (x_wordHere h) (fun v w' g => ?_))
  obtain ⟨e, q⟩ := g
  rcases q with ⟨k, hk, ev, hv⟩ | ⟨-, hno⟩
  · have : k = j := wdL_inj k hk j hj (hv.2.symm.trans hw.2)
    subst this
    exact ⟨ev, e⟩
  · exact absurd hw (hno j hj)
theorem y_wd (h : YS n b lim m i w) (hT : TM n b (min n lim) m) {j k : Nat} {c : Int64} (hj : j < 20) (hw : wdOk (tkA n b m i) j) (hk : k < 20) (hc : c = lN (en8 (wdL k))) : sh_196 166 c w = some (decide (j = k), w) := by
  subst hc
  refine tp_q (tp_mono (y_isWord h.1 hT hk) (fun v w' g => ⟨?_, g.1⟩))
  by_cases q : j = k
  · subst q
    rw [decide_eq_true rfl]; exact g.2.mpr hw
  · rw [decide_eq_false q]
    cases hv : v with
    | false => rfl
    | true => exact absurd (wdL_inj j hj k hk (hw.2.symm.trans (g.2.mp hv).2)) q
theorem y_wdn (h : YS n b lim m i w) (hT : TM n b (min n lim) m) {k : Nat} {c : Int64} (hw : ∀ j, j < 6 → ¬ wdOk (tkA n b m i) j) (hk : k < 6) (hc : c = lN (en8 (wdL k))) : sh_196 166 c w = some (false, w) := by
  subst hc
  refine tp_q (tp_mono (y_isWord h.1 hT (j := k) (by omega)) (fun v w' g => ⟨?_, g.1⟩))
  cases hv : v with
  | false => rfl
  | true => exact absurd (g.2.mp hv) (hw k hk)
theorem l_rg : (7501159 : Int64) = lN (en8 (wdL 0)) := by decide
theorem l_pe : (123581014175598 : Int64) = lN (en8 (wdL 1)) := by decide
theorem l_wl : (2002873452 : Int64) = lN (en8 (wdL 2)) := by decide
theorem l_dr : (1685024626 : Int64) = lN (en8 (wdL 3)) := by decide
theorem l_wy : (7823737 : Int64) = lN (en8 (wdL 4)) := by decide
theorem l_fd : (1717658725 : Int64) = lN (en8 (wdL 5)) := by decide
theorem x_l0 (h : XP n b lim m i w) (hw : wdOk (tkA n b m i) 0) (p o : Nat) : sh_32 p o w = sh_35 p o w := by
  unfold sh_32
  rw [cl_e (x_word h (by decide) hw), gd_t (by decide), gd_t (by decide), if_pos (by decide), cl_id]
theorem x_l1 (h : XP n b lim m i w) (hw : wdOk (tkA n b m i) 1) (p o : Nat) : sh_32 p o w = sh_40 p o w := by
  unfold sh_32
  rw [cl_e (x_word h (by decide) hw), gd_t (by decide), gd_t (by decide), if_neg (by decide), gd_t (by decide), gd_t (by decide), if_pos (by decide), cl_id]
theorem x_l2 (h : XP n b lim m i w) (hw : wdOk (tkA n b m i) 2) (p o : Nat) : sh_32 p o w = sh_45 p o w := by
  unfold sh_32
  rw [cl_e (x_word h (by decide) hw), gd_t (by decide), gd_t (by decide), if_neg (by decide), gd_t (by decide), gd_t (by decide), if_neg (by decide), gd_t (by decide), gd_t (by decide), if_pos (by decide), cl_id]
theorem x_l3 (h : XP n b lim m i w) (hw : wdOk (tkA n b m i) 3) (p o : Nat) : sh_32 p o w = sh_47 p o w := by
  unfold sh_32
  rw [cl_e (x_word h (by decide) hw), gd_t (by decide), gd_t (by decide), if_neg (by decide), gd_t (by decide), gd_t (by decide), if_neg (by decide), gd_t (by decide), gd_t (by decide), if_neg (by decide), gd_t (by decide), gd_t (by decide), if_pos (by decide), cl_id]
theorem x_l4 (h : XP n b lim m i w) (hw : wdOk (tkA n b m i) 4) (p o : Nat) : sh_32 p o w = sh_49 p o w := by
  unfold sh_32
  rw [cl_e (x_word h (by decide) hw), gd_t (by decide), gd_t (by decide), if_neg (by decide), gd_t (by decide), gd_t (by decide), if_neg (by decide), gd_t (by decide), gd_t (by decide), if_neg (by decide), gd_t (by decide), gd_t (by decide), if_neg (by decide), gd_t (by decide), gd_t (by decide), if_pos (by decide), cl_id]
theorem x_l5 (h : XP n b lim m i w) (hw : wdOk (tkA n b m i) 5) (p o : Nat) : sh_32 p o w = sh_57 p o w := by
  unfold sh_32
  rw [cl_e (x_word h (by decide) hw), gd_t (by decide), gd_t (by decide), if_neg (by decide), gd_t (by decide), gd_t (by decide), if_neg (by decide), gd_t (by decide), gd_t (by decide), if_neg (by decide), gd_t (by decide), gd_t (by decide), if_neg (by decide), gd_t (by decide), gd_t (by decide), if_neg (by decide), gd_t (by decide), gd_t (by decide), if_pos (by decide), cl_id]
theorem DH.kp {P : Nat → Prop} {wx' wy' : Wd} (h : DH S o wx wy) (ho : 6 ≤ o) (hx : Kp (fun q => q = 1) wx wx') (hy : Kp (fun q => q = 166) wy wy') (hF : Fm P wy wy') (h20 : ¬ P 20) (h21 : ¬ P 21) : DH S o wx' wy' := by
  obtain ⟨a1, a2, a3, a4, a5, a6, a7, a8⟩ := h
  refine ⟨by rw [hy.I (by decide)]; exact a1, a2, a3.kp hx (fun k k1 k2 => by omega), ?_, a5, ?_, ?_, ?_⟩
  · have := a4.kp hx (fun k k1 k2 => by omega)
    rw [hy.L (by decide)]; exact this
  · rw [hF 20 h20, hx.I (by omega)]; exact a6
  · rw [hF 21 h21, hx.I (by omega)]; exact a7
  · rw [hx.I (by omega)]; exact a8
theorem XP.kp {P : Nat → Prop} (h : XP n b lim m i w) (hK : Kp P w w') (h1 : ∀ q, 1 ≤ q → q ≤ 5 → ¬ P q) : XP n b lim m i w' := by
  unfold XP XTs at *
  rw [hK.I (h1 1 (by decide) (by decide)), hK.I (h1 3 (by decide) (by decide)), hK.I (h1 4 (by decide) (by decide)), hK.L (h1 5 (by decide) (by decide))]
  exact h
theorem XQ.kp {P : Nat → Prop} (h : XQ n b lim m i w) (hK : Kp P w w') (h1 : ∀ q, 1 ≤ q → q ≤ 5 → ¬ P q) : XQ n b lim m i w' := ⟨h.1.kp hK h1, by rw [hK.I (h1 1 (by decide) (by decide))]; exact h.2⟩
theorem xq_go (h : XQ n b lim m i w) : tp (sh_37 1 w) (fun _ w' => XQ n b lim m (nextN m i) w' ∧ Kp (fun q => q = 1) w w' ∧ Ft (fun j => j = 6) w w') := tp_mono (x_go h.1) (fun _ _ g => ⟨⟨g.1, by rw [g.2.2 2 (by decide)]; exact h.2⟩, g.2⟩)
theorem xq_take (h : XQ n b lim m i w) {lo hi : Int32} (ho : numOk (tkA n b m i) lo hi) : tp (sh_38 1 lo hi w) (fun v w' => v = nI ((tkA n b m i).2.headD 0) ∧ XQ n b lim m (nextN m i) w' ∧ Kp (fun q => q = 1) w w' ∧ Ft (fun j => j = 6) w w') := tp_mono (x_take h.1 ho) (fun _ _ g => ⟨g.1, ⟨g.2.1, by rw [g.2.2.2 2 (by decide)]; exact h.2⟩, g.2.2⟩)
theorem numOk_r {t : Nat × List Nat} {lo hi : Nat} (h : numOk t (nI lo) (nI hi)) (hv : t.2.headD 0 < 1000) (h1 : lo < 1000) (h2 : hi < 1000) : lo ≤ t.2.headD 0 ∧ t.2.headD 0 ≤ hi := ⟨(nI_leI (by omega) (by omega)).mp h.2.1, (nI_leI (by omega) (by omega)).mp h.2.2⟩
theorem n_m1 {a : Nat} (h : a < 1000) : ¬ nI a = -1 := by rw [i_eq, i_nI (by omega)]; show ¬ (a : Int) = -1; omega
end LI
