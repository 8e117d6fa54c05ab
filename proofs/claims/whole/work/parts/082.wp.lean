/-! TOTAL HOLDING: the program answers, and its answer and world are such -/
def tp {α : Type} (m : Option (α × Wd)) (Q : α → Wd → Prop) : Prop := ∃ r w', m = some (r, w') ∧ Q r w'
section TP
variable {α β : Type} {Q : α → Wd → Prop} {w : Wd}
theorem tp_some {r : α} (h : Q r w) : tp (some (r, w)) Q := ⟨r, w, rfl, h⟩
theorem tp_eq {m : Option (α × Wd)} {r : α} {w' : Wd} (e : m = some (r, w')) (h : Q r w') : tp m Q := ⟨r, w', e, h⟩
theorem tp_mono {m : Option (α × Wd)} {Q' : α → Wd → Prop} (h : tp m Q') (k : ∀ r w', Q' r w' → Q r w') : tp m Q := by
  obtain ⟨r, w', e, h⟩ := h
  exact ⟨r, w', e, k _ _ h⟩
theorem tp_cl {P : β → Wd → Prop} {m : Option (β × Wd)} {f : β → Wd → Option (α × Wd)} (h : tp m P) (k : ∀ r w', P r w' → tp (f r w') Q) : tp (cl m f) Q := by
  obtain ⟨r, w', e, h⟩ := h
  subst e
  exact k r w' h
theorem tp_ce {m : Option (β × Wd)} {f : β → Wd → Option (α × Wd)} {r : β} {w' : Wd} (e : m = some (r, w')) (k : tp (f r w') Q) : tp (cl m f) Q := by
  subst e
  exact k
theorem tp_gd {m : Option (α × Wd)} {b : Bool} (h : b = true) (k : tp m Q) : tp (gd b m) Q := by subst h; exact k
theorem tp_lt {x : β} {f : β → Option (α × Wd)} (k : tp (f x) Q) : tp (lt x f) Q := k
theorem tp_stI {o j : Nat} {v : Int32} {f : Wd → Option (α × Wd)} (k : tp (f (sI w o j v)) Q) : tp (stI w o j v f) Q := k
theorem tp_stL {o j : Nat} {v : Int64} {f : Wd → Option (α × Wd)} (k : tp (f (sL w o j v)) Q) : tp (stL w o j v f) Q := k
theorem tp_stR {o j : Nat} {v : Option Nat} {f : Wd → Option (α × Wd)} (k : tp (f (sR w o j v)) Q) : tp (stR w o j v f) Q := k
theorem tp_der {o : Option Nat} {a : Nat} {f : Nat → Option (α × Wd)} (h : o = some a) (k : tp (f a) Q) : tp (der o f) Q := by subst h; exact k
theorem tp_ite {c : Prop} [Decidable c] {a b : Option (α × Wd)} (h1 : c → tp a Q) (h2 : ¬ c → tp b Q) : tp (if c then a else b) Q := by
  split
  · rename_i h; exact h1 h
  · rename_i h; exact h2 h
theorem tp_if {c : Prop} [Decidable c] {a b : Option (α × Wd)} (h : c) (k : tp a Q) : tp (if c then a else b) Q := by rw [if_pos h]; exact k
theorem tp_ifn {c : Prop} [Decidable c] {a b : Option (α × Wd)} (h : ¬ c) (k : tp b Q) : tp (if c then a else b) Q := by rw [if_neg h]; exact k
theorem tp_jn {A : Type} {J : A → Wd → Option (α × Wd)} {f : (A → Wd → Option (α × Wd)) → Option (α × Wd)} (k : tp (f J) Q) : tp (jn J f) Q := k
/-- how a loop's body ends: on, or out -/
def lpQ {S : Type} (A : S → Wd → Prop) (Q : α → Wd → Prop) : S ⊕ α → Wd → Prop := fun o w => match o with
  | .inl s => A s w
  | .inr r => Q r w
theorem tp_on {S : Type} {A : S → Wd → Prop} {s : S} (h : A s w) : tp (some ((.inl s : S ⊕ α), w)) (lpQ A Q) := ⟨_, _, rfl, h⟩
theorem tp_out {S : Type} {A : S → Wd → Prop} {r : α} (h : Q r w) : tp (some ((.inr r : S ⊕ α), w)) (lpQ A Q) := ⟨_, _, rfl, h⟩
/-- a loop: I holds after j times; there are less than n times -/
theorem tp_it {S : Type} {body : S → Wd → Option ((S ⊕ α) × Wd)} (I : Nat → S → Wd → Prop) (n : Nat) (hn : n < 1000000000000000) {s : S} (h0 : I 0 s w) (hs : ∀ j s w, I j s w → tp (body s w) (lpQ (fun s' w' => j < n ∧ I (j + 1) s' w') Q)) : tp (itM body FU s w) Q := by
  have key : ∀ (m j : Nat) (s : S) (w : Wd), j ≤ n → n < j + m → I j s w → tp (itM body m s w) Q := by
    intro m
    induction m with
    | zero => intro j s w hj hm hI; omega
    | succ m ih =>
      intro j s w hj hm hI
      obtain ⟨r, w', e, h⟩ := hs j s w hI
      rw [itM, e]
      cases r with
      | inl s' => exact ih (j + 1) s' w' (by have := h.1; omega) (by omega) h.2
      | inr r => exact ⟨r, w', rfl, h⟩
  exact key FU 0 s w (by omega) (by have := FU_gt hn; omega) h0
end TP

/-- all but the objects of P stay -/
def Kp (P : Nat → Prop) (w w' : Wd) : Prop := wn w' = wn w ∧ wx w' = wx w ∧ wR w' = wR w ∧ (∀ k, ¬ P k → wI w' k = wI w k) ∧ ∀ k, ¬ P k → wL w' k = wL w k
section KP
variable {P : Nat → Prop} {w w' w2 : Wd}
theorem Kp.refl : Kp P w w := ⟨rfl, rfl, rfl, fun _ _ => rfl, fun _ _ => rfl⟩
theorem Kp.trans (h : Kp P w w') (h2 : Kp P w' w2) : Kp P w w2 := ⟨h2.1.trans h.1, h2.2.1.trans h.2.1, h2.2.2.1.trans h.2.2.1, fun k hk => (h2.2.2.2.1 k hk).trans (h.2.2.2.1 k hk), fun k hk => (h2.2.2.2.2 k hk).trans (h.2.2.2.2 k hk)⟩
theorem Kp.mono {P' : Nat → Prop} (h : Kp P w w') (hp : ∀ k, P k → P' k) : Kp P' w w' := ⟨h.1, h.2.1, h.2.2.1, fun k hk => h.2.2.2.1 k (fun q => hk (hp k q)), fun k hk => h.2.2.2.2 k (fun q => hk (hp k q))⟩
theorem wI_row {k j a : Nat} {v : Int32} (h : ¬ a = k) : wI (sI w k j v) a = wI w a := by funext b; rw [wI_sI, if_neg (fun q => h q.1)]
theorem wL_row {k j a : Nat} {v : Int64} (h : ¬ a = k) : wL (sL w k j v) a = wL w a := by funext b; rw [wL_sL, if_neg (fun q => h q.1)]
theorem wI_rrow {k a : Nat} {f : Nat → Int32} (h : ¬ a = k) : wI (rI w k f) a = wI w a := by funext b; rw [wI_rI, if_neg h]
theorem wL_rrow {k a : Nat} {f : Nat → Int64} (h : ¬ a = k) : wL (rL w k f) a = wL w a := by funext b; rw [wL_rL, if_neg h]
theorem wI_rr {k : Nat} {f : Nat → Int32} : wI (rI w k f) k = f := by funext b; rw [wI_rI, if_pos rfl]
theorem wL_rr {k : Nat} {f : Nat → Int64} : wL (rL w k f) k = f := by funext b; rw [wL_rL, if_pos rfl]
theorem wI_same {k j : Nat} {v : Int32} : wI (sI w k j v) k j = v := by rw [wI_sI, if_pos ⟨rfl, rfl⟩]
theorem wI_other {k j b : Nat} {v : Int32} (h : ¬ b = j) : wI (sI w k j v) k b = wI w k b := by rw [wI_sI, if_neg (fun q => h q.2)]
theorem Kp.sI (h : Kp P w w') {k : Nat} (hk : P k) (j : Nat) (v : Int32) : Kp P w (sI w' k j v) :=
  ⟨h.1, h.2.1, h.2.2.1, fun a ha => by rw [wI_row (fun q => ha (by rw [q]; exact hk))]; exact h.2.2.2.1 a ha, h.2.2.2.2⟩
theorem Kp.sL (h : Kp P w w') {k : Nat} (hk : P k) (j : Nat) (v : Int64) : Kp P w (sL w' k j v) :=
  ⟨h.1, h.2.1, h.2.2.1, h.2.2.2.1, fun a ha => by rw [wL_row (fun q => ha (by rw [q]; exact hk))]; exact h.2.2.2.2 a ha⟩
theorem Kp.rI (h : Kp P w w') {k : Nat} (hk : P k) (f : Nat → Int32) : Kp P w (rI w' k f) :=
  ⟨h.1, h.2.1, h.2.2.1, fun a ha => by rw [wI_rrow (fun q => ha (by rw [q]; exact hk))]; exact h.2.2.2.1 a ha, h.2.2.2.2⟩
theorem Kp.rL (h : Kp P w w') {k : Nat} (hk : P k) (f : Nat → Int64) : Kp P w (rL w' k f) :=
  ⟨h.1, h.2.1, h.2.2.1, h.2.2.2.1, fun a ha => by rw [wL_rrow (fun q => ha (by rw [q]; exact hk))]; exact h.2.2.2.2 a ha⟩
theorem Kp.I (h : Kp P w w') {k : Nat} (hk : ¬ P k) : wI w' k = wI w k := h.2.2.2.1 k hk
theorem Kp.L (h : Kp P w w') {k : Nat} (hk : ¬ P k) : wL w' k = wL w k := h.2.2.2.2 k hk
theorem Kp.R (h : Kp P w w') : wR w' = wR w := h.2.2.1
theorem TY.kp (hT : TY w) (h : Kp P w w') : TY w' := hT.of h.1 h.2.2.1
end KP
/-- a row with one place anew -/
def up (S : Nat → Int32) (j : Nat) (v : Int32) : Nat → Int32 := fun i => if i = j then v else S i
theorem up_s {S : Nat → Int32} {j : Nat} {v : Int32} : up S j v j = v := if_pos rfl
theorem up_o {S : Nat → Int32} {i j : Nat} {v : Int32} (h : ¬ i = j) : up S j v i = S i := if_neg h
theorem up_d {S : Nat → Int32} {i j : Nat} {v : Int32} : up S j v i = if i = j then v else S i := rfl
theorem wI_up {w : Wd} {k j : Nat} {v : Int32} : wI (sI w k j v) k = up (wI w k) j v := by
  funext i
  rw [wI_sI]
  unfold up
  by_cases h : i = j
  · rw [if_pos h, if_pos ⟨rfl, h⟩]
  · rw [if_neg h, if_neg (fun q => h q.2)]
theorem HR.kp {S : Nat → Int32} {w w' : Wd} {o : Nat} {P : Nat → Prop} (h : HR S w o) (hk : Kp P w w') (hP : ∀ k, o ≤ k → k ≤ o + 9 → ¬ P k) : HR S w' o := by
  unfold HR
  rw [hk.I (hP o (by omega) (by omega)), hk.I (hP (o + 1) (by omega) (by omega)), hk.I (hP (o + 2) (by omega) (by omega)), hk.I (hP (o + 3) (by omega) (by omega)), hk.I (hP (o + 6) (by omega) (by omega)), hk.I (hP (o + 7) (by omega) (by omega)), hk.I (hP (o + 8) (by omega) (by omega)), hk.I (hP (o + 9) (by omega) (by omega))]
  exact h
/-- HR and WF see the HOUSE's part of a row alone -/
theorem HR.cong {S S' : Nat → Int32} {w : Wd} {o : Nat} (h : HR S w o) (hF : WF S) (he : ∀ i, i < 429 → S' i = S i) : HR S' w o := by
  obtain ⟨a2, e2, b2⟩ := hF.2.1
  obtain ⟨a3, e3, b3⟩ := hF.2.2.1
  obtain ⟨a5, e5, b5⟩ := hF.2.2.2.2.1
  unfold HR at h ⊢
  obtain ⟨h0, h1, h2, h3, h4, h5, h6, h7, h8, h9, h10⟩ := h
  rw [he 0 (by omega), he 1 (by omega), he 2 (by omega), he 3 (by omega), he 4 (by omega), he 5 (by omega), he 6 (by omega)]
  rw [e2, ix_nI (by omega)] at h7 ⊢
  rw [e3, ix_nI (by omega)] at h10 ⊢
  rw [e5, ix_nI (by omega)] at h9 ⊢
  refine ⟨h0, h1, by rw [h2, e2], by rw [h3, e3], h4, by rw [h5, e5], h6, fun k hk => ?_, fun t ht => ?_, fun k hk => ?_, fun k hk => ?_⟩
  · rw [he _ (by omega), he _ (by omega), he _ (by omega)]; exact h7 k hk
  · rw [he _ (by omega)]; exact h8 t ht
  · rw [he _ (by omega)]; exact h9 k hk
  · obtain ⟨n, en, hn1, hn2, hw⟩ := hF.2.2.2.2.2.2.2.2.2 k (by rw [e3, ix_nI (by omega)]; exact hk)
    rw [he _ (by omega)]
    refine ⟨(h10 k hk).1, fun i hi => ?_⟩
    rw [en, ix_nI (by omega)] at hi
    rw [he _ (by omega)]
    exact (h10 k hk).2 i (by rw [en, ix_nI (by omega)]; exact hi)
theorem WF.cong {S S' : Nat → Int32} (hF : WF S) (he : ∀ i, i < 429 → S' i = S i) : WF S' := by
  obtain ⟨a2, e2, b2⟩ := hF.2.1
  obtain ⟨a3, e3, b3⟩ := hF.2.2.1
  obtain ⟨a5, e5, b5⟩ := hF.2.2.2.2.1
  have ho : ∀ t, onR S t → onR S' t := fun t h => by unfold onR at h ⊢; rw [he 0 (by omega), he 1 (by omega)]; exact h
  unfold WF at hF ⊢
  obtain ⟨h0, h1, h2, h3, h4, h5, h6, h7, h8, h9⟩ := hF
  rw [he 0 (by omega), he 1 (by omega), he 2 (by omega), he 3 (by omega), he 4 (by omega), he 5 (by omega), he 6 (by omega)]
  rw [e2, ix_nI (by omega)] at h6 ⊢
  rw [e3, ix_nI (by omega)] at h9 ⊢
  rw [e5, ix_nI (by omega)] at h8 ⊢
  refine ⟨h0, ⟨a2, rfl, b2⟩, ⟨a3, rfl, b3⟩, h3, ⟨a5, rfl, b5⟩, h5, fun k hk => ?_, fun t ht => ?_, fun k hk => ?_, fun k hk => ?_⟩
  · rw [he _ (by omega), he _ (by omega), he _ (by omega)]; exact h6 k hk
  · rw [he _ (by omega)]; exact h7 t ht
  · obtain ⟨t, e, q⟩ := h8 k hk
    exact ⟨t, by rw [he _ (by omega)]; exact e, ho t q⟩
  · obtain ⟨n, en, hn1, hn2, hw⟩ := h9 k hk
    refine ⟨n, by rw [he _ (by omega)]; exact en, hn1, hn2, fun i hi => ?_⟩
    obtain ⟨t, e, q⟩ := hw i hi
    exact ⟨t, by rw [he _ (by omega)]; exact e, ho t q⟩
