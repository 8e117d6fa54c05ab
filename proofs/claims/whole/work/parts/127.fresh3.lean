section FM3
variable {n lim m i s P Y : Nat} {b : Nat → Nat} {f g : Nat → List Nat} {w w' : Wd}
theorem y_fresh_ok (hB : MB n b lim w) (h : MK n b lim m i w) (hT : TM n b (min n lim) m) (hW : WRD w) (hs : s < 24) (e2 : wI w 169 2 = nI P) (hP : P ≤ 6) (hf : ∀ k, k < P → okL (f k) ∧ wL w 171 (12 + k) = lN (en8 (f k))) (e3 : wI w 169 3 = nI Y) (hY : Y ≤ 6) (hg : ∀ k, k < Y → okL (g k) ∧ wL w 171 (18 + k) = lN (en8 (g k))) (ho : nmOk (tkA n b m i)) (hn : newL P Y f g (tkA n b m i).2) : tp (sh_200 166 (nI s) w) (fun v w' => v = true ∧ ∃ w1, w1 = sL w 171 s (lN (en8 (tkA n b m i).2)) ∧ MK n b lim m (nextN m i) w' ∧ MB n b lim w' ∧ Kp (fun q => q = 166) w1 w' ∧ Fm nxF w1 w') := by
  have hl := tkA_wd hT ho.1
  unfold sh_200
  refine tp_cl (y_isName h hT hW) (fun v w1 h1 => ?_)
  obtain ⟨e1, h1⟩ := h1
  rw [e1]
  refine tp_if (h1.mpr ho) (tp_gd (by decide) ?_)
  rw [show wI w (166 + 3) (ix 2) = nI P from e2]
  refine tp_cl (y_find (g := 12) hP (by decide) (y_word17 h ho.1).2 hf hl) (fun v2 w2 h2 => ?_)
  obtain ⟨e4, h2⟩ := h2
  rw [e4]
  refine tp_if ((fd_no h2 hP).2.mpr ((fd_no h2 hP).1.mpr hn.1)) (tp_gd (by decide) ?_)
  rw [show wI w (166 + 3) (ix 3) = nI Y from e3]
  refine tp_cl (y_find (g := 18) hY (by decide) (y_word17 h ho.1).2 hg hl) (fun v3 w3 h3 => ?_)
  obtain ⟨e5, h3⟩ := h3
  rw [e5]
  have q3 := (fd_no h3 hY).1.mpr hn.2
  refine tp_ifn (by rw [q3]; decide) (tp_gd (ib_nI hs (by decide)) ?_)
  rw [ix_nI (by omega), (y_word17 h ho.1).2]
  refine tp_stL ?_
  have hB2 : MB n b lim (sL w (166 + 5) s (lN (en8 (tkA n b m i).2))) := hB
  have h2' : MK n b lim m i (sL w (166 + 5) s (lN (en8 (tkA n b m i).2))) := by
    obtain ⟨a1, a2, a3, a4⟩ := h
    exact ⟨a1, a2, fun q => by rw [wL_row (by decide)]; exact a3 q, a4⟩
  exact tp_cl (y_go hB2 h2' hT) (fun _ w4 h4 => tp_some ⟨rfl, _, rfl, h4⟩)
end FM3
